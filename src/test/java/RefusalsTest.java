import java.util.ArrayList;
import java.util.List;

/**
 * Each refused call, in the order in which its promise tells the refusals: the
 * number that it answers, that it is counted once, and that nothing else
 * changes. And each call that only asks: nothing changes at all.
 *
 * <p>Whether something changed is seen by a twin, an object made by the same
 * calls without the one that is looked at: both must be alike to the last
 * letter, number, and deed that can be taken back.
 */
public final class RefusalsTest extends Checks {
    private interface Call {
        long on(SecondHelping x);
    }

    /** The objects on which the calls are made. */
    private enum Start {
        NEW, SOME, FULL;

        SecondHelping make() {
            switch (this) {
                case NEW:
                    return new SecondHelping();
                case SOME:
                    return some();
                default:
                    return full();
            }
        }
    }

    private static final Start[] ANY = Start.values();
    private static final Start[] MADE = {Start.SOME, Start.FULL};
    private static final Start[] SOME = {Start.SOME};
    private static final Start[] FULL = {Start.FULL};
    private static final Start[] NEW = {Start.NEW};

    /** Four DOINGS, five places, four deeds to take back, two numbers, letters, an image unlike it. */
    private static SecondHelping some() {
        SecondHelping x = new SecondHelping();
        x.doing(3, 8, 77);
        x.does(0);
        x.law(1, 1);
        x.image();
        x.empties();
        x.doing(0, 3, 3);
        x.doing(2, 4, 12);
        for (int doing : new int[] {1, 2, 0, 1}) {
            x.does(doing);
        }
        x.doing(5, 9, 1);
        feedAndTell(x, "m31;");
        x.turn(0, 4, 2);
        x.marks(1, 5);
        x.law(2, 1);
        x.does(3);
        x.row(1);
        x.row(2);
        feed(x, "x;o3;m12;l05;");
        return x;
    }

    private static void feedAndTell(SecondHelping x, String text) {
        feed(x, text).state();
    }

    /** All of everything: DOINGS, places, deeds, numbers, letters. */
    private static SecondHelping full() {
        SecondHelping x = new SecondHelping();
        for (int d = 0; d < 8; d++) {
            x.doing(d % 6, 9 - d, 30 * d + 1);
        }
        for (int p = 0; p < 9; p++) {
            x.does(p % 8);
        }
        x.image();
        x.law(3, 2);
        x.turn(2, 5, 9);
        x.marks(4, 7);
        x.does(3);
        x.turn(7, 0, 0);
        x.does(3);
        x.does(5);
        x.law(2, 8);
        for (int p = 0; p < 12; p++) {
            x.row(x.place(p, 0));
        }
        return feed(x, "x;m01;m12;m23;m34;m45;m56;m67;m70;l25;x;o0;o1;o2;o3;o4;o5;o6;o7;o7;o6;o5;o4;m11;m22;m33;m44;m55;");
    }

    /** All that an object holds but its REFUSALS; what looks destroys it. */
    private static List<Long> allOf(SecondHelping x) {
        List<Long> all = new ArrayList<>();
        for (int what = 0; what <= 8; what++) {
            all.add((long) x.count(what));
        }
        all.addAll(board(x));
        // The ROW was made of THE LOG, so -9 tells that each number is as it was.
        all.add((long) x.judge());
        for (int deeds = x.count(8); deeds > 0; deeds--) {
            all.add((long) x.back());
            for (int what = 1; what <= 5; what++) {
                all.add((long) x.count(what));
            }
        }
        all.addAll(board(x));
        all.add((long) x.state());
        all.addAll(board(x));
        all.add((long) x.restore());
        all.addAll(board(x));
        return all;
    }

    private static void look(int promise, String what, Start start, Call call, long want, int refusal) {
        String where = what + " on " + start;
        SecondHelping x = start.make();
        int[] counted = refusals(x);
        due(promise, where, call.on(x), want);
        if (refusal < 0) {
            counted[-refusal - 1]++;
        }
        dues(promise, where + ", REFUSALS", refusals(x), counted);
        alike(promise, where + ", the rest", allOf(x), allOf(start.make()));
    }

    private static void refused(int promise, Start[] starts, int number, String what, Call call) {
        for (Start start : starts) {
            look(promise, what, start, call, number, number);
        }
    }

    private static void refusedLong(int promise, Start[] starts, int number, String what, Call call) {
        for (Start start : starts) {
            look(promise, what, start, call, LONG - number, number);
        }
    }

    /** A call that only asks, whatever it answers. */
    private static void asks(int promise, Start[] starts, String what, Call call) {
        for (Start start : starts) {
            look(promise, what + " only asks", start, call, call.on(start.make()), 0);
        }
    }

    private static void starts() {
        int[] some = {4, 5, 2, 1, -1, -1, 13, 2, 4};
        int[] full = {8, 12, 2, 8, -1, -1, 96, 12, 8};
        for (int what = 0; what <= 8; what++) {
            if (some[what] >= 0) {
                due(58, "SOME " + what, some().count(what), some[what]);
                due(58, "FULL " + what, full().count(what), full[what]);
            }
        }
        due(53, "ROW of SOME", some().judge(), -9);
        due(53, "ROW of FULL", full().judge(), -9);
        due(3, "letters of SOME", some().state(), 4);
        due(3, "letters of FULL", full().state(), 28);
        due(57, "image of SOME", some().restore(), 1);
        due(57, "image of FULL", full().restore(), 9);
    }

    private static void lettersRefused() {
        for (int letter : new int[] {-1, -2, -255, MIN}) {
            refused(2, ANY, -4, "feed " + letter, x -> x.feed(letter));
        }
        for (int letter : new int[] {256, 257, 65536 + 120, MAX}) {
            refused(2, ANY, -6, "feed " + letter, x -> x.feed(letter));
        }
        for (int letter : new int[] {0, 'x', ';', 255}) {
            refused(2, FULL, -6, "97th letter " + letter, x -> x.feed(letter));
        }
    }

    private static void doingsRefused() {
        for (int none : new int[] {-1, -2, 8, 9, MIN, MAX}) {
            for (int what : new int[] {-1, 0, 2, 3}) {
                refused(4, ANY, -1, "doingOf " + none + " " + what, x -> x.doingOf(none, what));
            }
            refused(6, ANY, -1, "does " + none, x -> x.does(none));
        }
        refused(4, NEW, -1, "no DOING 0", x -> x.doingOf(0, 0));
        refused(4, SOME, -1, "doingOf 4", x -> x.doingOf(4, 2));
        refused(6, NEW, -1, "does without DOINGS", x -> x.does(0));
        refused(6, SOME, -1, "does 4", x -> x.does(4));
        for (int doing : new int[] {0, 7}) {
            refused(6, FULL, -6, "13th place of " + doing, x -> x.does(doing));
        }
        for (int what : new int[] {-1, 3, MIN, MAX}) {
            refused(4, MADE, -2, "what " + what, x -> x.doingOf(3, what));
        }
        for (int kind : new int[] {-1, 6, MIN, MAX}) {
            refused(5, ANY, -2, "KIND " + kind, x -> x.doing(kind, 0, 0));
            refused(5, ANY, -2, "KIND ahead of FIGURE -1", x -> x.doing(kind, -1, 0));
            refused(5, ANY, -2, "KIND ahead of MARKS -1", x -> x.doing(kind, 0, -1));
            refused(5, ANY, -2, "KIND ahead of FIGURE 10", x -> x.doing(kind, 10, 0));
            refused(5, ANY, -2, "KIND ahead of MARKS 256", x -> x.doing(kind, 0, 256));
        }
        for (int below : new int[] {-1, MIN}) {
            refused(5, ANY, -4, "FIGURE " + below, x -> x.doing(0, below, 0));
            refused(5, ANY, -4, "MARKS " + below, x -> x.doing(0, 0, below));
            refused(5, ANY, -4, "FIGURE below ahead of MARKS 256", x -> x.doing(5, below, 256));
            refused(5, ANY, -4, "MARKS below ahead of FIGURE 10", x -> x.doing(5, 10, below));
        }
        for (int above : new int[] {10, 256, MAX}) {
            refused(5, ANY, -6, "FIGURE " + above, x -> x.doing(0, above, 0));
        }
        for (int above : new int[] {256, 512, MAX}) {
            refused(5, ANY, -6, "MARKS " + above, x -> x.doing(0, 0, above));
        }
        refused(5, FULL, -6, "ninth DOING", x -> x.doing(0, 0, 0));
        refused(5, FULL, -6, "ninth DOING of all", x -> x.doing(5, 9, 255));
    }

    private static void changesRefused() {
        for (int none : new int[] {-1, 8, MIN, MAX}) {
            refused(8, ANY, -1, "turn " + none, x -> x.turn(none, 0, 0));
            refused(8, ANY, -1, "turn ahead of KIND 6", x -> x.turn(none, 6, 0));
            refused(8, ANY, -1, "turn ahead of KIND -1", x -> x.turn(none, -1, 0));
            refused(8, ANY, -1, "turn ahead of FIGURE -1", x -> x.turn(none, 0, -1));
            refused(8, ANY, -1, "turn ahead of FIGURE 10", x -> x.turn(none, 0, 10));
            refused(9, ANY, -1, "marks " + none, x -> x.marks(none, 0));
            refused(9, MADE, -1, "MARK " + none, x -> x.marks(0, none));
            refused(9, ANY, -1, "marks, either " + none, x -> x.marks(none, none));
        }
        refused(8, SOME, -1, "turn 4", x -> x.turn(4, 0, 0));
        refused(8, NEW, -1, "turn 0", x -> x.turn(0, 0, 0));
        refused(9, SOME, -1, "marks 4", x -> x.marks(4, 0));
        refused(9, NEW, -1, "marks 0", x -> x.marks(0, 0));
        for (int other : new int[] {-1, 6, MIN, MAX}) {
            refused(8, MADE, -2, "turn to KIND " + other, x -> x.turn(0, other, 0));
            refused(8, MADE, -2, "KIND ahead of FIGURE -1", x -> x.turn(0, other, -1));
            refused(8, MADE, -2, "KIND ahead of FIGURE 10", x -> x.turn(0, other, 10));
        }
        for (int below : new int[] {-1, MIN}) {
            refused(8, MADE, -4, "turn to FIGURE " + below, x -> x.turn(3, 5, below));
            refused(10, ANY, -4, "T " + below, x -> x.law(0, below));
        }
        for (int above : new int[] {10, MAX}) {
            refused(8, MADE, -6, "turn to FIGURE " + above, x -> x.turn(3, 5, above));
        }
        for (int type : new int[] {-1, 4, MIN, MAX}) {
            for (int t : new int[] {-1, 0, 8, 9}) {
                refused(10, ANY, -2, "TYPE " + type + " and T " + t, x -> x.law(type, t));
            }
        }
        for (int above : new int[] {9, 10, MAX}) {
            refused(10, ANY, -6, "T " + above, x -> x.law(3, above));
        }
        refused(11, NEW, -3, "nothing to take back", x -> x.back());
        refused(57, NEW, -3, "no image", x -> x.restore());
    }

    private static void pairsRefused() {
        for (int none : new int[] {-1, -2, 8, MIN, MAX}) {
            refused(12, MADE, -1, "same " + none, x -> x.same(none, 0));
            refused(12, MADE, -1, "same 0 and " + none, x -> x.same(0, none));
            refused(12, ANY, -1, "same, both " + none, x -> x.same(none, none));
            refused(36, MADE, -1, "chain from " + none, x -> x.chain(none, 0));
            refused(36, MADE, -1, "chain to " + none, x -> x.chain(0, none));
            refused(36, ANY, -1, "chain, both " + none, x -> x.chain(none, none));
            refused(15, ANY, -1, "next " + none, x -> x.next(none));
        }
        refused(12, NEW, -1, "same without DOINGS", x -> x.same(0, 0));
        refused(36, NEW, -1, "chain without DOINGS", x -> x.chain(0, 0));
        refused(15, NEW, -1, "next without DOINGS", x -> x.next(0));
        refused(12, SOME, -1, "same 4", x -> x.same(4, 4));
        refused(12, SOME, -1, "same 3 and 4", x -> x.same(3, 4));
        refused(36, SOME, -1, "chain 4", x -> x.chain(4, 4));
        refused(36, SOME, -1, "chain 3 to 4", x -> x.chain(3, 4));
        refused(15, SOME, -1, "next 4", x -> x.next(4));
        for (int none : new int[] {-2, -9, 8, MIN, MAX}) {
            refused(21, ANY, -1, "like " + none, x -> x.like(none));
        }
        refused(21, NEW, -1, "like without DOINGS", x -> x.like(0));
        refused(21, SOME, -1, "like 4", x -> x.like(4));
    }

    private static void placesRefused() {
        for (int none : new int[] {-1, 12, MIN, MAX}) {
            for (int what : new int[] {-1, 0, 2, 3}) {
                refused(13, ANY, -1, "place " + none + " " + what, x -> x.place(none, what));
            }
        }
        for (int what : new int[] {-1, 3, MIN, MAX}) {
            refused(13, MADE, -2, "what " + what, x -> x.place(4, what));
        }
        for (int none : new int[] {-2, 12, MIN, MAX}) {
            refused(27, ANY, -1, "saves " + none, x -> x.saves(none));
            refused(49, ANY, -1, "moved " + none, x -> x.moved(none));
        }
        refused(13, NEW, -1, "no place 0", x -> x.place(0, 0));
        refused(13, SOME, -1, "place 5", x -> x.place(5, 0));
        refused(27, NEW, -1, "saves 0", x -> x.saves(0));
        refused(27, SOME, -1, "saves 5", x -> x.saves(5));
        refused(49, NEW, -1, "moved 0", x -> x.moved(0));
        refused(49, SOME, -1, "moved 5", x -> x.moved(5));
    }

    private static void othersRefused() {
        for (int what : new int[] {-1, 2, MIN, MAX}) {
            refused(16, ANY, -2, "best " + what, x -> x.best(what));
            refused(22, ANY, -2, "reading " + what, x -> x.reading(what));
            refused(23, ANY, -2, "fits " + what, x -> x.fits(what));
            refused(24, ANY, -2, "tellsMost " + what, x -> x.tellsMost(what));
            refused(26, ANY, -2, "shared " + what, x -> x.shared(what));
            refusedLong(34, ANY, -2, "mean " + what, x -> x.mean(what));
            refused(35, ANY, -2, "twins " + what, x -> x.twins(what));
            refused(37, ANY, -2, "heaps " + what, x -> x.heaps(what));
            refused(38, ANY, -2, "pure " + what, x -> x.pure(what));
            refused(45, ANY, -2, "radius " + what, x -> x.radius(what));
            refused(48, ANY, -2, "banned " + what, x -> x.banned(what));
        }
        for (int kind : new int[] {-2, 6, MIN, MAX}) {
            refused(47, ANY, -2, "byKind " + kind, x -> x.byKind(kind));
        }
    }

    private static void numbersRefused() {
        for (int below : new int[] {-1, MIN}) {
            refused(17, ANY, -4, "charged " + below, x -> x.charged(below));
            refused(44, ANY, -4, "quota " + below, x -> x.quota(below));
            refused(40, MADE, -4, "margin " + below, x -> x.margin(0, below));
            refused(52, ANY, -4, "row " + below, x -> x.row(below));
        }
        for (int above : new int[] {1000, 1001, MAX}) {
            refused(17, ANY, -6, "charged " + above, x -> x.charged(above));
            refused(44, ANY, -6, "quota " + above, x -> x.quota(above));
            refused(40, MADE, -6, "margin " + above, x -> x.margin(0, above));
        }
        for (int none : new int[] {-1, 8, MIN, MAX}) {
            for (int v : new int[] {-1, 0, 999, 1000}) {
                refused(40, ANY, -1, "margin of " + none + " " + v, x -> x.margin(none, v));
            }
        }
        refused(40, SOME, -1, "margin of 4", x -> x.margin(4, 0));
        refused(40, NEW, -1, "margin without DOINGS", x -> x.margin(0, 0));
        for (int above : new int[] {100, 101, MAX}) {
            refused(52, ANY, -6, "row " + above, x -> x.row(above));
        }
        refused(52, FULL, -6, "13th number", x -> x.row(0));
        refused(52, FULL, -6, "13th number 99", x -> x.row(99));
        for (int s : new int[] {0, -1, MIN}) {
            refused(32, ANY, -4, "inspectors " + s, x -> x.inspectors(s));
        }
        for (int s : new int[] {10, 11, MAX}) {
            refused(32, ANY, -6, "inspectors " + s, x -> x.inspectors(s));
        }
    }

    private static void setsRefused() {
        for (int below : new int[] {-1, MIN}) {
            refused(18, ANY, -4, "order of set " + below, x -> x.order(below, 0));
            refused(18, ANY, -4, "order of a set below and i below", x -> x.order(below, -2));
            for (int what : new int[] {-1, 0, 2, 3}) {
                refused(30, ANY, -4, "wants " + below + " " + what, x -> x.wants(below, what));
            }
        }
        for (int i : new int[] {-2, -3, MIN}) {
            refused(18, ANY, -4, "order i " + i, x -> x.order(0, i));
            refused(18, ANY, -4, "i ahead of bits of no DOING", x -> x.order(256, i));
            refused(18, FULL, -4, "i ahead of more than 6", x -> x.order(127, i));
        }
        for (int set : new int[] {256, 257, 511, 1 << 30, MAX}) {
            refused(18, ANY, -6, "order of set " + set, x -> x.order(set, -1));
            for (int what : new int[] {-1, 0, 2, 3}) {
                refused(30, ANY, -6, "wants " + set + " " + what, x -> x.wants(set, what));
            }
        }
        refused(18, NEW, -6, "order of 1", x -> x.order(1, -1));
        refused(18, SOME, -6, "order of 16", x -> x.order(16, -1));
        refused(18, SOME, -6, "order of 31", x -> x.order(31, 0));
        refused(18, SOME, -6, "bits of no DOING ahead of more than 6", x -> x.order(127, -1));
        refused(18, FULL, -3, "order of seven", x -> x.order(127, -1));
        refused(18, FULL, -3, "order of another seven", x -> x.order(254, 0));
        refused(18, FULL, -3, "order of eight", x -> x.order(255, MAX));
        for (int what : new int[] {-1, 3, MIN, MAX}) {
            refused(30, ANY, -2, "wants what " + what, x -> x.wants(255, what));
            refused(30, ANY, -2, "wants nothing, what " + what, x -> x.wants(0, what));
        }
    }

    private static void rowsRefused() {
        Call longRow = x -> {
            x.clear();
            for (int i = 0; i <= x.count(1); i++) {
                x.row(0);
            }
            return 0;
        };
        for (Start start : new Start[] {Start.NEW, Start.SOME}) {
            for (int what : new int[] {-1, 0, 1, 2}) {
                rowTooLong(23, start, longRow, what, x -> x.fits(what));
                rowTooLong(24, start, longRow, what, x -> x.tellsMost(what));
            }
        }
    }

    private static void rowTooLong(int promise, Start start, Call longRow, int what, Call call) {
        SecondHelping x = start.make();
        SecondHelping twin = start.make();
        longRow.on(x);
        longRow.on(twin);
        int number = what == 0 || what == 1 ? -3 : -2;
        int[] counted = refusals(x);
        counted[-number - 1]++;
        due(promise, "more numbers than places, what " + what, call.on(x), number);
        dues(promise, "more numbers than places, REFUSALS", refusals(x), counted);
        alike(promise, "more numbers than places, the rest", allOf(x), allOf(twin));
    }

    private static void timesRefused() {
        for (int below : new int[] {-1, MIN}) {
            refusedLong(31, ANY, -4, "songs of " + below, x -> x.songs(below, 0));
            refusedLong(31, ANY, -4, "songs of " + below + " ahead of g 3", x -> x.songs(below, 3));
            refusedLong(31, ANY, -4, "songs, g " + below, x -> x.songs(0, below));
            refusedLong(31, ANY, -4, "songs, g " + below + " ahead of 9", x -> x.songs(9, below));
        }
        for (int above : new int[] {9, 10, MAX}) {
            refusedLong(31, ANY, -6, "songs of " + above, x -> x.songs(above, 0));
        }
        for (int above : new int[] {3, 4, MAX}) {
            refusedLong(31, ANY, -6, "songs, g " + above, x -> x.songs(0, above));
        }
        for (int other : new int[] {-1, 0, 1, 2, MIN, MAX}) {
            for (int below : new int[] {-1, MIN}) {
                refusedLong(33, ANY, -4, "chance of " + below + " " + other, x -> x.chance(below, other));
                refused(42, ANY, -4, "greedily " + below + " " + other, x -> x.greedily(below, other));
                refused(43, ANY, -4, "pair " + below + " " + other, x -> x.pair(below, other));
                refused(55, ANY, -4, "lots " + below + " " + other, x -> x.lots(below, 1, other));
            }
            refused(55, ANY, -4, "lots 0 " + other, x -> x.lots(0, 1, other));
            for (int more : new int[] {1, 2, MAX - 20}) {
                refusedLong(33, ANY, -6, "chance of 5 and " + more + " " + other, x -> x.chance(5 + more, other));
                refused(42, ANY, -6, "greedily 12 and " + more + " " + other, x -> x.greedily(12 + more, other));
                refused(43, ANY, -6, "pair 6 and " + more + " " + other, x -> x.pair(6 + more, other));
                refused(55, ANY, -6, "lots 20 and " + more + " " + other, x -> x.lots(20 + more, 1, other));
            }
        }
        for (int other : new int[] {-1, 2, MIN, MAX}) {
            for (int last = 0; last <= 1; last++) {
                int n = last;
                refusedLong(33, ANY, -2, "chance, part " + other, x -> x.chance(5 * n, other));
                refused(42, ANY, -2, "greedily, what " + other, x -> x.greedily(12 * n, other));
                refused(43, ANY, -2, "pair, what " + other, x -> x.pair(6 * n, other));
                refused(55, ANY, -2, "lots, what " + other, x -> x.lots(1 + 19 * n, 1, other));
            }
        }
    }

    /** No answer of count() is a refusal, nor is a FAULT, nor -9. */
    private static void notCounted() {
        for (int what : new int[] {MIN, -1, 0, 4, 8, 9, 10, 11, 15, 16, 17, MAX}) {
            asks(58, ANY, "count " + what, x -> x.count(what));
        }
        for (int what : new int[] {MIN, -1, 9, 10, 17, MAX}) {
            due(58, "count " + what, some().count(what), -9);
        }
        for (String fault : new String[] {"", "q", "x", "o9;", "d60000;"}) {
            SecondHelping x = told("d00000;");
            tell(x, fault);
            dues(3, "a FAULT is not counted", refusals(x), 0, 0, 0, 0, 0, 0);
        }
        SecondHelping x = new SecondHelping();
        long nines = x.best(0) + x.best(1) + x.charged(0) + x.order(0, 0) + x.like(-1) + x.tellsMost(0) + x.tellsMost(1)
            + x.loophole() + x.saves(-1) + x.changed() + x.wants(1, 0) + x.wants(1, 1) + x.wants(1, 2) + x.inspectors(1)
            + x.twins(0) + x.twins(1) + x.pure(1) + x.greedily(12, 1) + x.pair(6, 0) + x.pair(6, 1) + x.radius(1)
            + x.byKind(-1) + x.banned(0) + x.banned(1) + x.moved(-1) + x.judge() + x.count(9);
        due(58, "27 times -9", nines, -9 * 27);
        dues(58, "-9 is not counted", refusals(x), 0, 0, 0, 0, 0, 0);
    }

    private static void asking() {
        for (int i = 0; i <= 1; i++) {
            int what = i;
            asks(16, ANY, "best", x -> x.best(what));
            asks(22, ANY, "reading", x -> x.reading(what));
            asks(23, ANY, "fits", x -> x.fits(what));
            asks(24, ANY, "tellsMost", x -> x.tellsMost(what));
            asks(26, ANY, "shared", x -> x.shared(what));
            asks(33, ANY, "chance", x -> x.chance(3, what));
            asks(34, ANY, "mean", x -> x.mean(what));
            asks(35, ANY, "twins", x -> x.twins(what));
            asks(37, ANY, "heaps", x -> x.heaps(what));
            asks(38, ANY, "pure", x -> x.pure(what));
            asks(42, ANY, "greedily", x -> x.greedily(12, what));
            asks(43, ANY, "pair", x -> x.pair(6, what));
            asks(45, ANY, "radius", x -> x.radius(what));
            asks(48, ANY, "banned", x -> x.banned(what));
            asks(55, ANY, "lots", x -> x.lots(20, -5, what));
        }
        for (int i = 0; i <= 2; i++) {
            int what = i;
            asks(4, MADE, "doingOf", x -> x.doingOf(3, what));
            asks(13, MADE, "place", x -> x.place(4, what));
            asks(30, ANY, "wants", x -> x.wants(3, what));
        }
        for (int i = -1; i <= 4; i++) {
            int number = i;
            asks(18, MADE, "order", x -> x.order(15, number));
            asks(47, ANY, "byKind", x -> x.byKind(number));
            asks(27, MADE, "saves", x -> x.saves(number));
            asks(49, MADE, "moved", x -> x.moved(number));
        }
        for (int i = -1; i <= 3; i++) {
            int doing = i;
            asks(21, MADE, "like", x -> x.like(doing));
        }
        askingMore();
    }

    private static void askingMore() {
        asks(12, MADE, "same", x -> x.same(0, 1));
        asks(14, ANY, "allDue", x -> x.allDue());
        asks(15, MADE, "next", x -> x.next(3));
        asks(17, ANY, "charged", x -> x.charged(0));
        asks(19, ANY, "unlike", x -> x.unlike());
        asks(20, ANY, "people", x -> x.people());
        asks(25, ANY, "loophole", x -> x.loophole());
        asks(28, ANY, "turned", x -> x.turned());
        asks(29, ANY, "changed", x -> x.changed());
        asks(31, ANY, "songs", x -> x.songs(8, 2));
        asks(32, ANY, "inspectors", x -> x.inspectors(9));
        asks(36, MADE, "chain", x -> x.chain(0, 3));
        asks(39, ANY, "bestT", x -> x.bestT());
        asks(40, MADE, "margin", x -> x.margin(1, 999));
        asks(41, ANY, "firsts", x -> x.firsts());
        asks(44, ANY, "quota", x -> x.quota(999));
        asks(46, ANY, "majority", x -> x.majority());
        asks(50, ANY, "unlikeMarks", x -> x.unlikeMarks());
        asks(51, ANY, "streak", x -> x.streak());
    }

    public static void main(String[] args) {
        starts();
        lettersRefused();
        doingsRefused();
        changesRefused();
        pairsRefused();
        placesRefused();
        othersRefused();
        numbersRefused();
        setsRefused();
        rowsRefused();
        timesRefused();
        notCounted();
        asking();
        end("all refusals are as told, and leave all as it was");
    }
}
