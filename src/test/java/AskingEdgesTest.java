/**
 * The edges that the document names for all that only asks: promises 12 to 51
 * and 55. Nothing there (no DOINGS, an empty LOG), one, all full, of several
 * the least, and each number just below the least, the least, the greatest,
 * the one just above. What is refused is told by its number here; what it
 * leaves unchanged is looked at in RefusalsTest.
 */
public final class AskingEdgesTest extends Checks {
    private static final String EIGHT_SAME = "d00000;".repeat(8);
    private static final String EIGHT_UNLIKE = "d00000;d00001;d00002;d00003;d00004;d00005;d00006;d00007;";
    private static final String TWELVE = "o0;".repeat(12);

    private static SecondHelping none() {
        return new SecondHelping();
    }

    // ---- 12: the same ----

    private static void sameByMarks() {
        for (int mark = 0; mark < 8; mark++) {
            SecondHelping x = none();
            x.doing(0, 0, 1 << mark);
            x.doing(0, 0, 0);
            x.doing(3, 9, 1 << mark);
            due(12, "one MARK more", x.same(0, 1), 0);
            due(12, "MARKS alike, all else unlike", x.same(0, 2), 1);
            due(12, "T is nothing to TYPE 0", x.law(0, 8) + x.same(0, 1), 0);
        }
        SecondHelping y = told("d00000;d59000;d00255;d59255;");
        due(12, "no MARKS alike", y.same(0, 1), 1);
        due(12, "all MARKS alike", y.same(2, 3), 1);
        due(12, "none and all", y.same(1, 2), 0);
    }

    private static void sameByKind() {
        for (int kind = 0; kind <= 5; kind++) {
            for (int other = 0; other <= 5; other++) {
                for (int t = 0; t <= 8; t += 8) {
                    SecondHelping x = none();
                    x.doing(kind, 0, 0);
                    x.doing(other, 9, 255);
                    x.law(1, t);
                    due(12, "KINDS " + kind + " and " + other, x.same(0, 1), kind == other ? 1 : 0);
                }
            }
        }
    }

    private static void sameByT() {
        for (int marks = 0; marks <= 8; marks++) {
            for (int t = 0; t <= 8; t++) {
                SecondHelping x = none();
                x.doing(0, 0, 255);
                x.doing(1, 1, 255 << marks & 255);
                x.law(2, t);
                due(12, 8 - marks + " shared, T " + t, x.same(0, 1), 8 - marks >= t ? 1 : 0);
                due(12, "and the other way", x.same(1, 0), 8 - marks >= t ? 1 : 0);
                x.law(3, t);
                due(12, marks + " had by just one, T " + t, x.same(0, 1), marks <= t ? 1 : 0);
                due(12, "and the other way", x.same(1, 0), marks <= t ? 1 : 0);
            }
        }
        SecondHelping y = told("d00015;d00240;l21;");
        due(12, "four each, none shared", y.same(0, 1), 0);
        y.law(3, 7);
        due(12, "four each, eight by one", y.same(0, 1), 0);
    }

    private static void sameWithItself() {
        for (int type = 0; type <= 3; type++) {
            for (int t = 0; t <= 8; t++) {
                SecondHelping x = told("d00000;d59255;");
                x.law(type, t);
                due(12, "with itself, without MARKS", x.same(0, 0), 1);
                due(12, "with itself, with all", x.same(1, 1), 1);
                x.does(0);
                due(12, "and so it has REPEATS", x.next(0), 1);
            }
        }
        due(12, "one of none", none().same(0, 0), -1);
        SecondHelping one = told("d00000;");
        due(12, "past the last", one.same(0, 1), -1);
        due(12, "past the last, first", one.same(1, 0), -1);
        due(12, "-1 first", one.same(-1, 0), -1);
        due(12, "-1 second", one.same(0, -1), -1);
        due(12, "the last of eight", told(EIGHT_UNLIKE).same(7, 7), 1);
        due(12, "beyond eight", told(EIGHT_UNLIKE).same(7, 8), -1);
    }

    // ---- 13 to 17: what is due ----

    private static void places() {
        due(13, "empty LOG", told("d00000;").place(0, 0), -1);
        SecondHelping x = told("d29000;" + TWELVE);
        for (int p = 0; p < 12; p++) {
            due(13, "DOING of " + p, x.place(p, 0), 0);
            due(13, "REPEATS of " + p, x.place(p, 1), p);
            due(13, "DUE of " + p, x.place(p, 2), 20 * p);
        }
        due(13, "place 12", x.place(12, 0), -1);
        due(13, "place -1", x.place(-1, 0), -1);
        due(13, "what -1", x.place(11, -1), -2);
        due(13, "what 3", x.place(11, 3), -2);
        SecondHelping y = told(EIGHT_UNLIKE, "o7;o0;o7;");
        due(13, "DOING 7", y.place(0, 0), 7);
        due(13, "no REPEATS", y.place(1, 1), 0);
        due(13, "REPEATS of it alone", y.place(2, 1), 1);
    }

    private static void allDue() {
        due(14, "nothing there", none().allDue(), 0);
        due(14, "empty LOG", told("d29000;").allDue(), 0);
        due(14, "one place", told("d29000;o0;").allDue(), 0);
        due(14, "two places", told("d29000;o0;o0;").allDue(), 20);
        String[] kinds = {"d09000;", "d10000;", "d29000;", "d39000;", "d49000;", "d50000;"};
        int[] dues = {660, 30, 1320, 0, 1100, 63};
        for (int i = 0; i < kinds.length; i++) {
            due(14, "twelve of " + kinds[i], told(kinds[i], TWELVE).allDue(), dues[i]);
            due(58, "the same count, " + kinds[i], told(kinds[i], TWELVE).count(4), dues[i]);
        }
        due(14, "eight unlike", told(EIGHT_UNLIKE, "o0;o1;o2;o3;o4;o5;o6;o7;").allDue(), 0);
    }

    private static void next() {
        due(15, "no DOINGS", none().next(0), -1);
        int[] atFirst = {0, 0, 0, 0, 0, 0};
        int[] second = {1, 0, 2, 0, 0, 3};
        int[] secondOfTen = {10, 5, 20, 0, 0, 8};
        int[] thirteenth = {12, 6, 24, 0, 22, 9};
        for (int kind = 0; kind <= 5; kind++) {
            String one = "d" + kind + "0000;";
            due(15, "not yet done, KIND " + kind, told(one).next(0), atFirst[kind]);
            due(15, "done once, KIND " + kind, told(one, "o0;").next(0), second[kind]);
            due(15, "done once, FIGURE 9, KIND " + kind, told("d" + kind + "9000;", "o0;").next(0), secondOfTen[kind]);
            due(15, "without room, KIND " + kind, told(one, TWELVE).next(0), thirteenth[kind]);
        }
        SecondHelping x = told(EIGHT_SAME, "o0;");
        due(15, "the last", x.next(7), 1);
        due(15, "past the last", x.next(8), -1);
        due(15, "-1", x.next(-1), -1);
    }

    private static void best() {
        for (int what = 0; what <= 1; what++) {
            due(16, "no DOINGS", none().best(what), -9);
            due(16, "one", told("d00000;").best(what), 0);
            due(16, "of eight alike the least", told(EIGHT_SAME).best(what), 0);
        }
        due(16, "what -1", none().best(-1), -2);
        due(16, "what 2", none().best(2), -2);
        SecondHelping x = told(EIGHT_UNLIKE, "o0;o1;o2;o3;o4;o5;o6;");
        due(16, "least by the last", x.best(0), 7);
        due(16, "most of several", x.best(1), 0);
        x.empties();
        x.does(7);
        due(16, "least of several", x.best(0), 0);
        due(16, "most by the last", x.best(1), 7);
        due(16, "without room", told("d00000;d30001;", TWELVE).best(0), 1);
    }

    private static void charged() {
        SecondHelping x = told("d29000;", TWELVE);
        int[] v = {0, 1, 19, 20, 21, 199, 200, 219, 220, 998, 999};
        int[] places = {1, 1, 1, 2, 2, 10, 11, 11, -9, -9, -9};
        for (int i = 0; i < v.length; i++) {
            due(17, "above " + v[i], x.charged(v[i]), places[i]);
        }
        due(17, "-1", x.charged(-1), -4);
        due(17, "1000", x.charged(1000), -6);
        due(17, "empty LOG", none().charged(0), -9);
        due(17, "empty LOG, 999", none().charged(999), -9);
        due(17, "empty LOG, -1", none().charged(-1), -4);
        due(17, "empty LOG, 1000", none().charged(1000), -6);
        due(17, "nothing DUE", told("d00000;o0;").charged(0), -9);
        due(17, "first, not most", told("d10000;d29001;o1;o0;o0;o0;o1;").charged(0), 3);
    }

    // ---- 18 to 21: order, unlike, people, like ----

    private static void order() {
        due(18, "of nothing", none().order(0, -1), 0);
        due(18, "first of nothing", none().order(0, 0), -9);
        due(18, "no DOING 0", none().order(1, -1), -6);
        SecondHelping x = told(EIGHT_SAME);
        for (int size = 0; size <= 6; size++) {
            int set = (1 << size) - 1 << 8 - size;
            due(18, size + " together", x.order(set, -1), size * (size - 1) / 2);
            for (int i = 0; i < size; i++) {
                due(18, "of several the first: " + i, x.order(set, i), 8 - size + i);
            }
            due(18, "none behind the last of " + size, x.order(set, size), -9);
        }
        due(18, "i MAX", x.order(63, MAX), -9);
        due(18, "i -2", x.order(63, -2), -4);
        due(18, "set -1", x.order(-1, -1), -4);
        due(18, "set 256", x.order(256, -1), -6);
        due(18, "seven", x.order(127, -1), -3);
        due(18, "eight", x.order(255, -1), -3);
        SecondHelping seven = told("d00000;".repeat(7));
        due(18, "six of seven", seven.order(126, 5), 6);
        due(18, "bit 7 of seven", seven.order(128, -1), -6);
        due(18, "seven of seven", seven.order(127, -1), -3);
        SecondHelping full = told(EIGHT_SAME, TWELVE);
        due(18, "without room", full.order(192, -1), 25);
        SecondHelping dear = told("d09000;d30000;d00000;");
        due(18, "the dear one first", dear.order(7, -1), 1);
        due(18, "the first of two orders", dear.order(7, 1) * 10 + dear.order(7, 2), 21);
        SecondHelping later = told("d00000;d30000;d09000;");
        due(18, "the last may come first", later.order(7, 0), 2);
        due(18, "then the first", later.order(7, 1), 0);
        due(18, "then the BREATH", later.order(7, 2), 1);
    }

    private static void unlike() {
        due(19, "no DOINGS", none().unlike(), 0);
        due(19, "one", told("d00000;").unlike(), 1);
        due(19, "eight alike", told(EIGHT_SAME).unlike(), 1);
        due(19, "eight unlike", told(EIGHT_UNLIKE).unlike(), 255);
        due(19, "of several the least", told("d00001;d00002;d00002;d00001;").unlike(), 3);
        due(19, "the most, though of greater bits", told("d00003;d00001;d00001;d00002;l21;").unlike(), 10);
        due(20, "no DOINGS", none().people(), 0);
        due(20, "one", told("d00000;").people(), 1);
        due(20, "eight alike", told(EIGHT_SAME).people(), 8);
        due(20, "eight unlike", told(EIGHT_UNLIKE).people(), 1);
        due(20, "three heaps", told("d00001;d00001;d00002;d00002;d00002;d00004;").people(), 3);
    }

    private static void like() {
        due(21, "no DOINGS", none().like(-1), -9);
        due(21, "no DOING 0", none().like(0), -1);
        due(21, "-2 of none", none().like(-2), -1);
        SecondHelping one = told("d00000;");
        due(21, "itself aside", one.like(0), 0);
        due(21, "the one", one.like(-1), 0);
        due(21, "past the last", one.like(1), -1);
        SecondHelping eight = told(EIGHT_SAME);
        due(21, "seven", eight.like(7), 7);
        due(21, "of several the least", eight.like(-1), 0);
        due(21, "8", eight.like(8), -1);
        due(21, "eight unlike", told(EIGHT_UNLIKE).like(-1), 0);
        due(21, "the last with most", told("d00001;d00002;d00004;d00008;d00015;l21;").like(-1), 4);
    }

    // ---- 22 to 25: laws and loopholes ----

    private static void reading() {
        due(22, "nothing there", none().reading(0), 0);
        due(22, "nothing there, that", none().reading(1), 0);
        due(22, "what -1", none().reading(-1), -2);
        due(22, "what 2", none().reading(2), -2);
        due(22, "of several the first", told("d00000;l38;o0;").reading(0), 0);
        due(22, "by KIND", told("d00001;d11001;o0;o1;").reading(0), 10);
        SecondHelping last = told("d00127;d00127;o0;o1;");
        due(22, "by 8 shared or more", last.reading(0), 28);
        due(22, "nothing DUE", last.reading(1), 0);
        SecondHelping all = told("d29255;d29255;", "o0;o1;".repeat(6));
        due(22, "by all LAWS alike", all.reading(0), 0);
        due(22, "most", all.reading(1), 1320);
        due(39, "nothing there", none().bestT(), 0);
        due(39, "by MARKS", told("d00001;d00001;o0;o1;").bestT(), 0);
        due(39, "by KIND", told("d00001;d00001;o0;o1;l18;").bestT(), 0);
        due(39, "8 shared or more", told("d00127;d00127;o0;o1;l20;").bestT(), 8);
        due(39, "1 shared or more", told("d00000;d00000;o0;o1;l28;").bestT(), 1);
        due(39, "0 by just one", told("d00000;d00001;o0;o1;l38;").bestT(), 0);
        due(39, "all T alike", told("d00255;d00255;o0;o1;l28;").bestT(), 0);
    }

    private static void fits() {
        due(23, "no numbers, empty LOG", none().fits(0), 36);
        due(23, "no numbers, the first", none().fits(1), 0);
        due(23, "one number, empty LOG", rowed(none(), 0).fits(0), -3);
        due(23, "one number, empty LOG, what 2", rowed(none(), 0).fits(2), -2);
        SecondHelping x = told("d00000;o0;o0;");
        due(23, "fewer than places", rowed(x, 0).fits(0), 36);
        due(23, "as many as places", rowed(x, 0, 1).fits(0), 36);
        due(23, "one more than places", rowed(x, 0, 1, 2).fits(0), -3);
        due(23, "one more, the first", x.fits(1), -3);
        due(23, "one more, what 2", x.fits(2), -2);
        due(23, "one more, what -1", x.fits(-1), -2);
        due(23, "the ROW stays", x.count(7), 3);
        due(23, "none", rowed(x, 0, 2).fits(0), 0);
        due(23, "first of none", x.fits(1), -9);
        // 14 times 7 is 98; 9 times 11 is 99; 20 times 5 is 100.
        SecondHelping to98 = told("d26000;", "o0;".repeat(8));
        due(23, "98 told as 98", rowed(to98, 0, 14, 28, 42, 56, 70, 84, 98).fits(0), 36);
        due(23, "98 told as 99", rowed(to98, 0, 14, 28, 42, 56, 70, 84, 99).fits(0), 0);
        SecondHelping to99 = told("d08000;", TWELVE);
        due(23, "99 told as 99", rowed(to99, 0, 9, 18, 27, 36, 45, 54, 63, 72, 81, 90, 99).fits(0), 36);
        due(23, "99 told as 98", rowed(to99, 0, 9, 18, 27, 36, 45, 54, 63, 72, 81, 90, 98).fits(0), 0);
        SecondHelping to100 = told("d29000;", "o0;".repeat(6));
        due(23, "100 told as 99", rowed(to100, 0, 20, 40, 60, 80, 99).fits(0), 36);
        due(23, "100 told as 98", rowed(to100, 0, 20, 40, 60, 80, 98).fits(0), 0);
        SecondHelping most = told("d29000;", TWELVE);
        due(23, "220 told as 99", rowed(most, 0, 20, 40, 60, 80, 99, 99, 99, 99, 99, 99, 99).fits(0), 36);
        SecondHelping alone = told("d00127;d00127;o0;o1;");
        due(23, "the only LAW", rowed(alone, 0, 0).fits(1), 28);
        due(23, "only one", alone.fits(0), 1);
        SecondHelping last = told("d00000;d10001;o0;o1;");
        due(23, "by 0 shared or 1 by one and more", rowed(last, 0, 0).fits(0), 36);
        last.turn(1, 0, 0);
        last.marks(0, 1);
        rowed(last, 0, 1);
        due(23, "by KIND, 0 shared, 2 by one and more", last.fits(0), 9 + 1 + 7);
        due(23, "not by a ninth MARK that is shared", rowed(told("d00255;d00255;o0;o1;"), 0, 0).fits(1), -9);
        SecondHelping type3 = told("d00000;d00001;d00003;o0;o1;o2;");
        due(23, "by 1 of just one alone", rowed(type3, 0, 1, 1).fits(0), 1);
        due(23, "by 1 of just one", type3.fits(1), 31);
        due(23, "by 7 of just one", rowed(told("d00000;d00127;d00255;o0;o1;o2;"), 0, 1, 1).fits(1), 37);
    }

    private static void tellsMost() {
        for (int what = 0; what <= 1; what++) {
            due(24, "no DOINGS", none().tellsMost(what), -9);
            due(24, "no DOINGS, one number", rowed(none(), 0).tellsMost(what), -3);
            due(24, "none fits", rowed(told("d00000;o0;"), 1).tellsMost(what), -9);
            due(24, "one more than places", rowed(told("d00000;o0;"), 0, 1).tellsMost(what), -3);
        }
        due(24, "one more than places, what 2", rowed(told("d00000;o0;"), 0, 1).tellsMost(2), -2);
        due(24, "no DOINGS, what -1", none().tellsMost(-1), -2);
        SecondHelping one = told("d00000;");
        due(24, "one DOING", one.tellsMost(0), 0);
        due(24, "one DUE", one.tellsMost(1), 1);
        due(24, "of eight that part nothing the least", told(EIGHT_SAME).tellsMost(0), 0);
        SecondHelping last = told("d30000;".repeat(7) + "d00001;o0;");
        due(24, "the last", last.tellsMost(0), 7);
        due(24, "0 or 1", last.tellsMost(1), 2);
        due(24, "as many as places", rowed(last, 0).tellsMost(0), 7);
        // With 8 MARKS, 7 of these, .. 1 of these done ahead: REPEATS 1 .. 8 by T.
        SecondHelping many = told("d00255;d00127;d00063;d00031;d00015;d00007;d00003;d00001;", "o0;o1;o2;o3;o4;o5;o6;o7;");
        due(24, "unlike DUES", many.tellsMost(1), 8);
        due(24, "of the first", many.tellsMost(0), 0);
        SecondHelping type3 = told("d00000;d00001;d00003;o0;o1;o2;");
        due(24, "parted by what just one has", type3.tellsMost(0), 0);
        due(24, "1, 2 or 3", type3.tellsMost(1), 3);
        SecondHelping above = told("d29000;d30001;o0;o0;o0;o0;o0;o1;");
        due(24, "100 and 120 are unlike, though a ROW would tell both as 99", above.tellsMost(1), 2);
        due(24, "by the ROW of these, too", rowed(above, 0, 20, 40, 60, 80).tellsMost(1), 2);
    }

    private static void loophole() {
        due(25, "nothing there", none().loophole(), -9);
        due(25, "empty LOG", told("d00000;d00000;").loophole(), -9);
        due(25, "nothing less", told("d00000;o0;o0;").loophole(), -9);
        due(25, "of several the least", told("d00000;d00000;o0;o1;").loophole(), 0);
        due(25, "DOING 0, MARK 7", told("d00128;d00128;o0;o1;l21;").loophole(), 7);
        SecondHelping last = told("d00129;d00129;d00000;d00000;d00000;d00000;d00000;d00128;", "l21;o0;o1;o7;");
        due(25, "DOING 7, MARK 7", last.loophole(), 77);
        due(25, "had it that MARK", told("d00000;d00001;o0;o1;l31;").loophole(), 1);
        due(25, "had it that MARK not", told("d00003;d00003;o0;o1;l22;").loophole(), 0);
        // Each of its eight MARKS brings 0 nearer to one of the three; only a ninth would not.
        due(25, "no ninth MARK", told("d00000;d00007;d00056;d00193;l33;o1;o2;o3;o0;").loophole(), 1);
        due(25, "more by each", told("d00000;d00003;o0;o1;l31;").loophole(), -9);
    }

    // ---- 26 to 29: the log otherwise ----

    private static void shared() {
        due(26, "nothing there", none().shared(0), 0);
        due(26, "nothing there, places", none().shared(1), 0);
        SecondHelping one = told("d00000;o0;");
        due(26, "one place", one.shared(0), 0);
        due(26, "one place, the second has none", one.shared(1), 0);
        SecondHelping two = told("d00000;o0;o0;");
        due(26, "two places", two.shared(0), 0);
        due(26, "two places, the second has the first", two.shared(1), 1);
        SecondHelping three = told("d00000;o0;o0;o0;");
        due(26, "three places", three.shared(0), 1);
        due(26, "three places, of several the least", three.shared(1), 1);
        SecondHelping most = told("d29000;", TWELVE);
        due(26, "six each", most.shared(0), 20 * 30);
        due(26, "the first six", most.shared(1), 63);
        SecondHelping bread = told("d49000;o0;o0;");
        due(26, "nothing is less", bread.shared(1), 0);
        SecondHelping far = told("d30002;d29001;", "o0;".repeat(10) + "o1;o1;");
        due(26, "the last two apart", far.shared(1), 1 << 10);
        due(26, "nothing DUE then", far.shared(0), 0);
        due(26, "what -1", none().shared(-1), -2);
        due(26, "what 2", none().shared(2), -2);
    }

    private static void saves() {
        due(27, "empty LOG", told("d00000;").saves(-1), -9);
        due(27, "empty LOG, 0", told("d00000;").saves(0), -1);
        due(27, "empty LOG, -2", told("d00000;").saves(-2), -1);
        SecondHelping one = told("d00000;o0;");
        due(27, "one place", one.saves(0), 0);
        due(27, "the one place", one.saves(-1), 0);
        due(27, "past the last", one.saves(1), -1);
        SecondHelping full = told("d00000;", TWELVE);
        for (int p = 0; p < 12; p++) {
            due(27, "without " + p, full.saves(p), 11);
        }
        due(27, "of several the least", full.saves(-1), 0);
        due(27, "12", full.saves(12), -1);
        due(27, "-2", full.saves(-2), -1);
        SecondHelping last = told("d30001;d09001;", "o0;".repeat(11) + "o1;");
        due(27, "the last saves most", last.saves(-1), 11);
        due(27, "all of it", last.saves(11), 110);
        due(27, "the first saves one REPEAT", last.saves(0), 10);
    }

    private static void turnedAndChanged() {
        due(28, "nothing there", none().turned(), 0);
        due(28, "one place", told("d29000;o0;").turned(), 0);
        due(28, "twelve", told("d29000;", TWELVE).turned(), 1320);
        SecondHelping last = told("d30001;d09001;", "o0;".repeat(11) + "o1;");
        due(28, "the last is first", last.turned(), 0);
        last.empties();
        tell(last, "o1;" + "o0;".repeat(11));
        due(28, "the first is last", last.turned(), 110);
        due(29, "nothing there", none().changed(), -9);
        due(29, "one place", told("d00000;o0;").changed(), -9);
        due(29, "nothing less", told("d00000;o0;o0;").changed(), -9);
        due(29, "0 and 1", told("d30001;d09001;o0;o1;").changed(), 1);
        due(29, "0 and 11", told("d30001;d09001;", "o0;".repeat(11) + "o1;").changed(), 11);
        due(29, "10 and 11", told("d30001;d00001;", "o1;".repeat(10) + "o0;o1;").changed(), 1011);
        due(29, "of several the first", told("d30001;d09001;d30001;o0;o2;o1;").changed(), 2);
        due(29, "less, but not less than now", told("d30001;d09001;o1;o0;").changed(), -9);
    }

    // ---- 30 to 34: wants, songs, inspectors, chances ----

    private static void wants() {
        for (int what = 0; what <= 2; what++) {
            due(30, "nothing wanted of nobody", none().wants(0, what), 0);
            due(30, "something of nobody", none().wants(1, what), -9);
            due(30, "all of nobody", none().wants(255, what), -9);
            due(30, "-1", none().wants(-1, what), -4);
            due(30, "256", none().wants(256, what), -6);
            due(30, "one MARK lacks", told("d00127;").wants(255, what), -9);
        }
        due(30, "what -1", none().wants(0, -1), -2);
        due(30, "what 3", none().wants(255, 3), -2);
        due(30, "-1 ahead of what 3", none().wants(-1, 3), -4);
        due(30, "256 ahead of what 3", none().wants(256, 3), -6);
        SecondHelping eight = told("d00001;d00002;d00004;d00008;d00016;d00032;d00064;d00128;", "o0;o7;");
        due(30, "all eight", eight.wants(255, 0), 255);
        due(30, "all eight, cheapest", eight.wants(255, 1), 255);
        due(30, "all eight, for 2", eight.wants(255, 2), 2);
        due(30, "the last", eight.wants(128, 0), 128);
        SecondHelping x = told("d00003;d00003;d00255;o2;");
        due(30, "of several the least", x.wants(3, 0), 1);
        due(30, "of several the least bits, for nothing", x.wants(3, 1), 1);
        due(30, "none but the dear one", x.wants(4, 1), 4);
        due(30, "by its NEXT", x.wants(4, 2), 1);
        due(30, "without room", told("d00001;", TWELVE).wants(1, 2), 12);
        SecondHelping free = told("d30003;d00001;d00002;o1;o2;");
        due(30, "more of them may be cheaper", told("d09003;d00001;d00002;o0;o1;o2;").wants(3, 1), 6);
        due(30, "fewest is not so", told("d09003;d00001;d00002;o0;o1;o2;").wants(3, 0), 1);
        due(30, "BREATH for nothing", free.wants(3, 2), 0);
    }

    private static void songs() {
        for (int g = 0; g <= 2; g++) {
            due(31, "none of no DOINGS", none().songs(0, g), 1);
            due(31, "one of no DOINGS", none().songs(1, g), 0);
            due(31, "eight of no DOINGS", none().songs(8, g), 0);
            due(31, "none of eight", told(EIGHT_UNLIKE).songs(0, g), 1);
            due(31, "one of eight", told(EIGHT_UNLIKE).songs(1, g), 8);
            due(31, "one of eight alike", told(EIGHT_SAME).songs(1, g), 8);
            due(31, "two of eight alike", told(EIGHT_SAME).songs(2, g), g == 0 ? 64 : 0);
        }
        due(31, "eight, g 0", told(EIGHT_SAME).songs(8, 0), 16777216);
        due(31, "eight, g 1", told(EIGHT_UNLIKE).songs(8, 1), 6588344);
        due(31, "eight, g 2", told(EIGHT_UNLIKE).songs(8, 2), 2612736);
        due(31, "one DOING, eight", told("d00000;").songs(8, 0), 1);
        due(31, "one DOING, two, g 1", told("d00000;").songs(2, 1), 0);
        due(31, "two DOINGS by turns", told("d00000;d00001;").songs(8, 1), 2);
        due(31, "two DOINGS, three, g 2", told("d00000;d00001;").songs(3, 2), 0);
        due(31, "three DOINGS by turns", told("d00000;d00001;d00002;").songs(8, 2), 6);
        SecondHelping x = none();
        due(31, "n -1", x.songs(-1, 0), LONG + 4);
        due(31, "n 9", x.songs(9, 0), LONG + 6);
        due(31, "g -1", x.songs(0, -1), LONG + 4);
        due(31, "g 3", x.songs(0, 3), LONG + 6);
        due(31, "g -1 ahead of n 9", x.songs(9, -1), LONG + 4);
        due(31, "n -1 ahead of g 3", x.songs(-1, 3), LONG + 4);
    }

    private static void inspectors() {
        due(32, "no DOINGS", none().inspectors(1), -9);
        due(32, "no DOINGS, 9", none().inspectors(9), -9);
        due(32, "no DOINGS, 0", none().inspectors(0), -4);
        due(32, "no DOINGS, 10", none().inspectors(10), -6);
        for (int s = 1; s <= 9; s++) {
            due(32, "one DOING by " + s, told("d00000;").inspectors(s), 2);
            due(32, "eight alike by " + s, told(EIGHT_SAME).inspectors(s), 2);
        }
        int[] times = {9, 5, 9, 3, 9, 5, 9, 2, 9};
        for (int s = 1; s <= 9; s++) {
            due(32, "eight unlike by " + s, told(EIGHT_UNLIKE).inspectors(s), times[s - 1]);
        }
        due(32, "the SAME as one before the last", told("d00001;d00002;d00001;").inspectors(1), 3);
        due(32, "-1", told(EIGHT_SAME).inspectors(-1), -4);
    }

    private static void chance(String what, SecondHelping x, int n, long above, long below) {
        due(33, what + ", above", x.chance(n, 0), above);
        due(33, what + ", below", x.chance(n, 1), below);
    }

    private static void chances() {
        chance("no DOINGS, none drawn", none(), 0, 1, 1);
        for (int n = 1; n <= 5; n++) {
            chance("no DOINGS, drawn " + n, none(), n, 0, 1);
            chance("BREATH, drawn " + n, told("d30000;"), n, 1, 1);
            chance("one DOING, drawn " + n, told("d00000;"), n, n == 1 ? 1 : 0, 1);
            chance("eight alike, drawn " + n, told(EIGHT_SAME), n, n == 1 ? 1 : 0, 1);
        }
        chance("eight, none drawn", told(EIGHT_UNLIKE), 0, 1, 1);
        chance("eight, one drawn", told(EIGHT_UNLIKE), 1, 1, 1);
        chance("eight, two drawn", told(EIGHT_UNLIKE), 2, 7, 8);
        chance("eight, five drawn", told(EIGHT_UNLIKE), 5, 105, 512);
        chance("two of two, in lowest terms", told("d00000;d00001;"), 2, 1, 2);
        chance("three of three", told("d00000;d00001;d00002;"), 3, 2, 9);
        chance("onto an empty LOG", told("d00000;o0;"), 1, 1, 1);
        chance("BREAD owes nothing for its second", told("d49000;"), 2, 1, 1);
        chance("BREAD owes for its third", told("d49000;"), 3, 0, 1);
        chance("KISS of FIGURE 0", told("d10000;"), 2, 1, 1);
        SecondHelping x = told("d00000;");
        due(33, "n -1", x.chance(-1, 0), LONG + 4);
        due(33, "n 6", x.chance(6, 0), LONG + 6);
        due(33, "part -1", x.chance(0, -1), LONG + 2);
        due(33, "part 2", x.chance(5, 2), LONG + 2);
        due(33, "n -1 ahead of part 2", x.chance(-1, 2), LONG + 4);
        due(33, "n 6 ahead of part 2", x.chance(6, 2), LONG + 6);
    }

    private static void mean(String what, SecondHelping x, long above, long below) {
        due(34, what + ", above", x.mean(0), above);
        due(34, what + ", below", x.mean(1), below);
    }

    private static void means() {
        mean("no DOINGS", none(), 0, 1);
        mean("nothing DUE", told(EIGHT_SAME), 0, 1);
        mean("one", told("d00000;o0;"), 1, 1);
        mean("a whole number", told("d00000;d00000;o0;"), 1, 1);
        mean("one of eight", told(EIGHT_UNLIKE, "o7;"), 1, 8);
        mean("in lowest terms", told(EIGHT_UNLIKE, "o6;o7;"), 1, 4);
        mean("above one", told("d02000;d00001;o0;"), 3, 2);
        mean("without room", told("d29000;".repeat(8), TWELVE), 240, 1);
        due(34, "part -1", none().mean(-1), LONG + 2);
        due(34, "part 2", none().mean(2), LONG + 2);
    }

    // ---- 35 to 41 ----

    private static void twins() {
        for (int what = 0; what <= 1; what++) {
            due(35, "no DOINGS", none().twins(what), -9);
            due(35, "one DOING", told("d00255;").twins(what), -9);
        }
        due(35, "none shared, of several the first", told("d00001;d00002;d00004;").twins(0), 1);
        due(35, "none shared", told("d00001;d00002;d00004;").twins(1), 0);
        due(35, "all shared", told("d00255;d59255;").twins(1), 8);
        SecondHelping last = told("d00001;d00002;d00004;d00008;d00016;d00032;d00192;d00192;");
        due(35, "6 and 7", last.twins(0), 67);
        due(35, "two", last.twins(1), 2);
        due(35, "0 and 7", told("d00128;d00000;d00000;d00000;d00000;d00000;d00000;d00128;").twins(0), 7);
        due(35, "what -1", none().twins(-1), -2);
        due(35, "what 2", none().twins(2), -2);
    }

    private static void chain() {
        due(36, "no DOINGS", none().chain(0, 0), -1);
        SecondHelping x = told("d00001;d00003;d00006;d00012;d00024;d00048;d00096;d00192;l21;");
        for (int other = 0; other <= 7; other++) {
            due(36, "0 to " + other, x.chain(0, other), other + 1);
            due(36, "7 to " + other, x.chain(7, other), 8 - other);
            due(36, "to itself " + other, x.chain(other, other), 1);
        }
        due(36, "0 to 8", x.chain(0, 8), -1);
        due(36, "8 to 0", x.chain(8, 0), -1);
        due(36, "-1 to 0", x.chain(-1, 0), -1);
        due(36, "0 to -1", x.chain(0, -1), -1);
        due(36, "none", told("d00000;d00001;").chain(0, 1), -9);
        due(36, "the fewest", told("d00001;d00003;d00007;l21;").chain(0, 2), 2);
    }

    private static void heaps() {
        for (int what = 0; what <= 1; what++) {
            due(37, "no DOINGS", none().heaps(what), 0);
            due(37, "one DOING", told("d00000;").heaps(what), 1);
        }
        due(37, "eight unlike", told(EIGHT_UNLIKE).heaps(0), 8);
        due(37, "eight unlike, the most", told(EIGHT_UNLIKE).heaps(1), 1);
        due(37, "eight alike", told(EIGHT_SAME).heaps(0), 1);
        due(37, "eight alike, the most", told(EIGHT_SAME).heaps(1), 8);
        due(37, "the last is the most", told("d00001;d00002;d00002;").heaps(1), 2);
        due(37, "what -1", none().heaps(-1), -2);
        due(37, "what 2", none().heaps(2), -2);
    }

    private static void pure() {
        due(38, "empty LOG", told("d00000;").pure(0), 0);
        due(38, "empty LOG, the first", told("d00000;").pure(1), -9);
        SecondHelping one = told("d00000;o0;");
        due(38, "one place", one.pure(0), 1);
        due(38, "one place, the first", one.pure(1), 0);
        SecondHelping same = told("d00000;", TWELVE);
        due(38, "twelve alike", same.pure(0), 1);
        due(38, "twelve alike, of several the first", same.pure(1), 0);
        SecondHelping eight = told(EIGHT_UNLIKE, "o0;o1;o2;o3;o4;o5;o6;o7;o0;o1;o2;o3;");
        due(38, "eight", eight.pure(0), 8);
        due(38, "eight, of several the first", eight.pure(1), 0);
        SecondHelping end = told(EIGHT_UNLIKE, "o0;o0;o0;o1;o0;o1;o2;o3;o4;o5;o6;o7;");
        due(38, "up to the end", end.pure(0), 8);
        due(38, "up to the end, the first", end.pure(1), 4);
        due(38, "what -1", none().pure(-1), -2);
        due(38, "what 2", none().pure(2), -2);
    }

    private static void margin() {
        due(40, "no DOINGS", none().margin(0, 0), -1);
        SecondHelping kiss = told("d10000;");
        // 60 times owes 0 0 1 1 2 2 .. 29 29, which is 870; without the last, 841.
        int[] v = {0, 1, 2, 840, 841, 869, 870, 899, 900, 999};
        int[] times = {2, 3, 4, 58, 59, 59, 60, 60, 60, 60};
        for (int i = 0; i < v.length; i++) {
            due(40, "KISS with " + v[i], kiss.margin(0, v[i]), times[i]);
            due(44, "KISS with " + v[i], kiss.quota(v[i]), times[i]);
        }
        due(40, "-1", kiss.margin(0, -1), -4);
        due(40, "1000", kiss.margin(0, 1000), -6);
        due(40, "no such and -1", kiss.margin(1, -1), -1);
        due(40, "no such and 1000", kiss.margin(-1, 1000), -1);
        due(40, "BREATH", told("d39000;").margin(0, 0), 60);
        due(40, "not once", told("d00000;o0;").margin(0, 0), 0);
        due(40, "once", told("d00000;o0;").margin(0, 1), 1);
        SecondHelping full = told("d00000;d00000;", TWELVE);
        int[] w = {0, 11, 12, 24, 25};
        int[] more = {0, 0, 1, 1, 2};
        for (int i = 0; i < w.length; i++) {
            due(40, "without room with " + w[i], full.margin(1, w[i]), more[i]);
            due(44, "without room with " + w[i], full.quota(w[i]), more[i]);
        }
        due(44, "no DOINGS", none().quota(0), 60);
        due(44, "no DOINGS, 999", none().quota(999), 60);
        due(44, "no DOINGS, -1", none().quota(-1), -4);
        due(44, "no DOINGS, 1000", none().quota(1000), -6);
        due(44, "BREATH", told("d00000;d39001;").quota(0), 60);
    }

    private static void firsts() {
        due(41, "empty LOG", told("d00000;").firsts(), 0);
        due(41, "one place", told("d00000;o0;").firsts(), 1);
        due(41, "twelve alike", told("d00000;", TWELVE).firsts(), 1);
        due(41, "eight unlike", told(EIGHT_UNLIKE, "o7;o6;o5;o4;o3;o2;o1;o0;o0;o1;o2;o3;").firsts(), 255);
        due(41, "0 and 11", told("d30000;d00001;", "o0;".repeat(11) + "o1;").firsts(), 1 + (1 << 11));
    }

    // ---- 42, 43, 45 to 51 ----

    private static void greedily() {
        due(42, "no DOINGS", none().greedily(12, 0), 0);
        due(42, "no DOINGS, last", none().greedily(12, 1), -9);
        SecondHelping one = told("d00000;");
        for (int n = 0; n <= 12; n++) {
            due(42, n + " times", one.greedily(n, 0), n * (n - 1) / 2);
            due(42, n + " times, the last", one.greedily(n, 1), n == 0 ? -9 : 0);
        }
        due(42, "-1", one.greedily(-1, 0), -4);
        due(42, "13", one.greedily(13, 0), -6);
        due(42, "what -1", one.greedily(12, -1), -2);
        due(42, "what 2", one.greedily(0, 2), -2);
        due(42, "-1 ahead of what 2", one.greedily(-1, 2), -4);
        due(42, "13 ahead of what 2", one.greedily(13, 2), -6);
        due(42, "without room", told("d00000;", TWELVE).greedily(12, 0), 12 * 12 + 66);
        SecondHelping eight = told(EIGHT_UNLIKE);
        for (int n = 1; n <= 12; n++) {
            due(42, "of several the least, " + n, eight.greedily(n, 1), (n - 1) % 8);
            due(42, "all DUE of eight, " + n, eight.greedily(n, 0), Math.max(0, n - 8));
        }
    }

    private static void pair() {
        for (int what = 0; what <= 1; what++) {
            due(43, "no DOINGS", none().pair(1, what), -9);
            due(43, "one DOING", told("d00000;").pair(1, what), -9);
            due(43, "one DOING, no times", told("d00000;").pair(0, what), -9);
        }
        SecondHelping two = told("d00000;d00000;", TWELVE);
        for (int n = 0; n <= 6; n++) {
            due(43, n + " times, the two", two.pair(n, 0), 1);
            due(43, n + " times each onto an empty LOG", two.pair(n, 1), n * (2 * n - 1));
        }
        due(43, "-1", two.pair(-1, 0), -4);
        due(43, "7", two.pair(7, 0), -6);
        due(43, "what -1", two.pair(6, -1), -2);
        due(43, "what 2", two.pair(0, 2), -2);
        due(43, "-1 ahead of what 2", two.pair(-1, 2), -4);
        due(43, "7 ahead of what 2", two.pair(7, 2), -6);
        SecondHelping last = told("d09000;d09000;d09000;d09000;d09000;d09000;d30000;d30000;");
        due(43, "6 and 7", last.pair(2, 0), 67);
        due(43, "for nothing", last.pair(2, 1), 0);
        due(43, "of several the first", last.pair(0, 0), 1);
        due(43, "of eight unlike the first", told(EIGHT_UNLIKE).pair(6, 0), 1);
        due(43, "the lesser first", told("d09000;d00000;").pair(1, 1), 1);
    }

    private static void radius() {
        due(45, "no DOINGS", none().radius(0), 0);
        due(45, "no DOINGS, CENTRE", none().radius(1), -9);
        due(45, "one", told("d00255;").radius(0), 0);
        due(45, "one, CENTRE", told("d00255;").radius(1), 0);
        due(45, "alike", told("d00255;d00255;").radius(0), 0);
        due(45, "none and all", told("d00000;d00255;").radius(0), 8);
        due(45, "of several the least", told("d00000;d00255;").radius(1), 0);
        due(45, "halves", told("d00015;d00240;").radius(0), 8);
        SecondHelping last = told("d00001;d00002;d00004;d00008;d00016;d00032;d00064;d00000;");
        due(45, "two", last.radius(0), 2);
        due(45, "the last", last.radius(1), 7);
        due(45, "what -1", none().radius(-1), -2);
        due(45, "what 2", none().radius(2), -2);
    }

    private static void majority() {
        due(46, "no DOINGS", none().majority(), 0);
        due(46, "one without", told("d00000;").majority(), 0);
        due(46, "one with all", told("d00255;").majority(), 255);
        due(46, "one of two", told("d00255;d00000;").majority(), 0);
        due(46, "two of three", told("d00255;d00000;d00255;").majority(), 255);
        due(46, "one of three", told("d00000;d00000;d00255;").majority(), 0);
        due(46, "four of eight have one, five the other",
            told("d00129;d00129;d00129;d00129;d00128;d00000;d00000;d00000;").majority(), 128);
    }

    private static void byKind() {
        for (int kind = 0; kind <= 5; kind++) {
            due(47, "empty LOG, KIND " + kind, none().byKind(kind), 0);
        }
        due(47, "empty LOG, with most", told("d00000;").byKind(-1), -9);
        due(47, "-2", none().byKind(-2), -2);
        due(47, "6", none().byKind(6), -2);
        due(47, "nothing DUE", told("d50000;o0;").byKind(-1), 0);
        int[] dues = {1, 0, 2, 0, 0, 3};
        for (int kind = 0; kind <= 5; kind++) {
            SecondHelping x = told("d" + kind + "0000;o0;o0;");
            for (int other = 0; other <= 5; other++) {
                due(47, "KIND " + other + " of KIND " + kind, x.byKind(other), other == kind ? dues[kind] : 0);
            }
            due(47, "with most, KIND " + kind, x.byKind(-1), dues[kind] > 0 ? kind : 0);
        }
        due(47, "1 by one KIND, nothing by the others", told("d11000;o0;o0;").byKind(-1), 1);
        due(47, "of several the least", told("d20000;d01001;o0;o0;o1;o1;").byKind(-1), 0);
        due(47, "a KIND under another has its own", told("d00000;d20001;o0;o0;o1;o1;").byKind(0), 1);
    }

    private static void banned() {
        for (int what = 0; what <= 1; what++) {
            due(48, "empty LOG", told("d00000;").banned(what), -9);
            due(48, "no DOINGS", none().banned(what), -9);
            due(48, "one place", told("d00000;o0;").banned(what), 0);
        }
        SecondHelping last = told(EIGHT_UNLIKE, "o0;o7;o0;o7;o7;");
        due(48, "the last", last.banned(0), 7);
        due(48, "what is left", last.banned(1), 1);
        due(48, "of those in THE LOG", told(EIGHT_UNLIKE, "o7;o7;").banned(0), 7);
        due(48, "of several the least", told(EIGHT_UNLIKE, "o7;o7;o6;o6;").banned(0), 6);
        SecondHelping same = told("d00000;d09000;o0;o1;o1;");
        due(48, "the later one", same.banned(0), 1);
        due(48, "nothing is left of the first", same.banned(1), 0);
        due(48, "all twelve", told("d29000;", TWELVE).banned(1), 0);
        due(48, "what -1", none().banned(-1), -2);
        due(48, "what 2", none().banned(2), -2);
    }

    private static void moved() {
        due(49, "empty LOG", told("d00000;").moved(-1), -9);
        due(49, "empty LOG, 0", told("d00000;").moved(0), -1);
        due(49, "empty LOG, -2", told("d00000;").moved(-2), -1);
        SecondHelping one = told("d00000;o0;");
        due(49, "one place", one.moved(0), 0);
        due(49, "one place, not less", one.moved(-1), -9);
        due(49, "past the last", one.moved(1), -1);
        SecondHelping full = told("d29000;", TWELVE);
        due(49, "first of twelve", full.moved(0), 1320);
        due(49, "last of twelve", full.moved(11), 1320);
        due(49, "12", full.moved(12), -1);
        due(49, "-2", full.moved(-2), -1);
        due(49, "not less", full.moved(-1), -9);
        SecondHelping x = told("d30001;d09001;", "o0;".repeat(11) + "o1;");
        due(49, "the last stays", x.moved(11), 110);
        due(49, "another behind it", x.moved(10), 100);
        due(49, "of several the least", x.moved(-1), 0);
        due(49, "the last but one", told("d30001;d09001;", "o1;".repeat(10) + "o0;o1;").moved(-1), 10);
    }

    private static void unlikeMarksAndStreak() {
        due(50, "no DOINGS", none().unlikeMarks(), 0);
        due(50, "one", told("d00000;").unlikeMarks(), 1);
        due(50, "eight unlike", told(EIGHT_UNLIKE).unlikeMarks(), 8);
        due(50, "eight alike", told(EIGHT_SAME).unlikeMarks(), 1);
        due(50, "by all eight bits", told("d00000;d00128;d00255;d00127;").unlikeMarks(), 4);
        due(51, "empty LOG", told("d00000;").streak(), 0);
        due(51, "one place", told("d00000;o0;").streak(), 1);
        due(51, "twelve", told("d00000;", TWELVE).streak(), 12);
        due(51, "none the SAME", told(EIGHT_UNLIKE, "o0;o1;o0;o1;").streak(), 1);
        due(51, "at the front", told(EIGHT_UNLIKE, "o0;o0;o0;o1;o1;").streak(), 3);
        due(51, "at the end", told(EIGHT_UNLIKE, "o0;o0;o1;o1;o1;").streak(), 3);
    }

    // ---- 55: lots ----

    /** What LOTS comes to with DOINGS of KIND 0, FIGURE 0, no two of which are the SAME. */
    private static int[] lots(int n, long z, int doings) {
        int owed = 0;
        int weeksFree = 0;
        for (int week = 0; week < n; week++) {
            int due = 0;
            int[] done = new int[doings];
            for (int i = 0; i < 12; i++) {
                z = (z * 1103515245L + 12345L) % (1L << 32);
                // What is over 31 bits, or under 0, comes to the same 31 bits without the sign's.
                due += done[(int) (Math.floorMod(z, 1L << 31) / 65536 % doings)]++;
            }
            owed += due;
            weeksFree += due == 0 ? 1 : 0;
        }
        return new int[] {owed, weeksFree};
    }

    private static void lots() {
        for (int what = 0; what <= 1; what++) {
            due(55, "no DOINGS", none().lots(20, 1, what), 0);
            due(55, "0", none().lots(0, 1, what), -4);
            due(55, "-1", none().lots(-1, 1, what), -4);
            due(55, "21", none().lots(21, 1, what), -6);
        }
        due(55, "what -1", none().lots(1, 1, -1), -2);
        due(55, "what 2", none().lots(20, 1, 2), -2);
        due(55, "0 ahead of what 2", none().lots(0, 1, 2), -4);
        due(55, "21 ahead of what 2", none().lots(21, 1, 2), -6);
        due(55, "one week of BREATH", told("d30000;").lots(1, 5, 1), 1);
        due(55, "twenty weeks of BREATH", told("d30000;").lots(20, 5, 1), 20);
        due(55, "twenty weeks of SONG", told("d29000;", TWELVE).lots(20, 5, 0), 20 * 1320);
        for (int z : new int[] {0, 1, -1, MIN, MIN + 1, MAX, MAX - 1, 12345, -12345, 65536, 1 << 30}) {
            for (int doings = 1; doings <= 8; doings++) {
                SecondHelping x = told(EIGHT_UNLIKE.substring(0, 7 * doings));
                for (int n : new int[] {1, 2, 20}) {
                    int[] want = lots(n, z, doings);
                    due(55, n + " weeks of " + doings + " from " + z, x.lots(n, z, 0), want[0]);
                    due(55, n + " weeks of " + doings + " from " + z + ", free", x.lots(n, z, 1), want[1]);
                }
            }
        }
        freeWeeks();
    }

    /** With 12 DRAWS a week is free only by DOINGS that owe nothing at first. */
    private static void freeWeeks() {
        SecondHelping x = told("d30000;d30001;d30002;d00003;");
        int free = 0;
        for (int z = 0; z < 40; z++) {
            int now = x.lots(1, z, 1);
            due(55, "free if nothing is DUE", now, x.lots(1, z, 0) == 0 ? 1 : 0);
            free += now;
        }
        due(55, "some weeks are free", free > 0 && free < 40 ? 1 : 0, 1);
    }

    public static void main(String[] args) {
        sameByMarks();
        sameByKind();
        sameByT();
        sameWithItself();
        places();
        allDue();
        next();
        best();
        charged();
        order();
        unlike();
        like();
        reading();
        fits();
        tellsMost();
        loophole();
        shared();
        saves();
        turnedAndChanged();
        wants();
        songs();
        inspectors();
        chances();
        means();
        twins();
        chain();
        heaps();
        pure();
        margin();
        firsts();
        greedily();
        pair();
        radius();
        majority();
        byKind();
        banned();
        moved();
        unlikeMarksAndStreak();
        lots();
        end("all edges of what asks hold");
    }
}
