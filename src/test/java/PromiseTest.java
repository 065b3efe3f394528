import java.math.BigInteger;

/**
 * Each promise of the document by itself: what it answers to ordinary calls,
 * at the edges that the document names, and to wrong inputs, in their order.
 * The answers were worked out by hand from the document.
 */
public final class PromiseTest extends Checks {
    /**
     * Six DOINGS, one of each KIND: 0, 1, 3, 5 with MARKS 1, and 2, 4 with MARKS 2.
     * By the first LAW the places owe 0 2 0 6 0 0 16 4 12, which is 40 together,
     * and NEXT of 0 .. 5 is 24 15 6 0 8 12.
     */
    private static final String SIX = "d03001;d14001;d20002;d39001;d41002;d52001;";
    private static final String NINE = "o0;o1;o2;o5;o4;o3;o0;o4;o1;";

    private static void promise1() {
        SecondHelping x = new SecondHelping();
        for (int what = 0; what <= 8; what++) {
            due(1, "count " + what, x.count(what), 0);
        }
        due(1, "place", x.place(0, 0), -1);
        due(1, "restore", x.restore(), -3);
    }

    private static void promise2() {
        SecondHelping x = new SecondHelping();
        due(2, "d", x.feed('d'), 1);
        due(2, "0", x.feed(0), 2);
        due(2, "255", x.feed(255), 3);
        due(2, "-1", x.feed(-1), -4);
        due(2, "MIN", x.feed(MIN), -4);
        due(2, "256", x.feed(256), -6);
        due(2, "MAX", x.feed(MAX), -6);
        for (int i = 4; i <= 96; i++) {
            due(2, "letter " + i, x.feed('x'), i);
        }
        due(2, "97th", x.feed('x'), -6);
        due(2, "97th below", x.feed(-1), -4);
        due(2, "letters", x.count(6), 96);
        dues(2, "refusals", refusals(x), 0, 0, 0, 3, 0, 3);
    }

    private static void promise3() {
        SecondHelping x = new SecondHelping();
        String[] texts = {"", "q", "x", "xx", "x;q", "x;;", " x;", ";", "d", "d0000", "d00001", "d000a1;", "d000011;",
            "o", "o;", "o00;", "l0;", "l", "m0;", "m000;", "D00000;", "x;o", "d0000:;", "d0000/;", "o9;q"};
        int[] faults = {0, 0, 1, 1, 2, 2, 0, 0, 1, 5, 6, 4, 6, 1, 1, 2, 2, 1, 2, 3, 0, 3, 5, 5, 3};
        for (int i = 0; i < texts.length; i++) {
            due(3, texts[i], tell(x, texts[i]), -1000 - faults[i]);
            due(3, "letters behind " + texts[i], x.count(6), 0);
        }
        due(3, "no such letter 255", feed(x, "x;").feed(255), 3);
        due(3, "255", x.state(), -1002);
        String[] impossible = {"o0;", "d60000;", "d90000;", "d00256;", "d00999;", "l40;", "l09;", "l99;", "m00;",
            "d00000;o1;", "d00000;m10;", "d00000;m08;", "x;d00000;o0;l38;l39;"};
        int[] places = {0, 0, 0, 0, 0, 0, 0, 0, 0, 7, 7, 7, 16};
        for (int i = 0; i < impossible.length; i++) {
            due(3, impossible[i], tell(x, impossible[i]), -2000 - places[i]);
            due(3, "nothing of " + impossible[i], x.count(0) + x.count(1) + x.count(2) + x.count(3), 0);
        }
        dues(3, "nothing is counted", refusals(x), 0, 0, 0, 0, 0, 0);
        due(3, "all comes", tell(x, "d59255;o0;o0;l38;"), 4);
        due(3, "KIND", x.doingOf(0, 0), 5);
        due(3, "FIGURE", x.doingOf(0, 1), 9);
        due(3, "MARKS", x.doingOf(0, 2), 255);
        due(3, "places", x.count(1), 2);
        due(3, "TYPE", x.count(2), 3);
        due(3, "T", x.count(3), 8);
        due(3, "more comes", tell(x, "x;o0;d00001;o1;o1;"), 5);
        due(3, "places then", x.count(1), 3);
        due(3, "log then", x.place(2, 0), 1);
        promise3Marks();
        promise3Room();
    }

    private static void promise3Marks() {
        SecondHelping x = told("d00001;m01;");
        due(3, "it has it", x.doingOf(0, 2), 3);
        tell(x, "m01;m07;");
        due(3, "told again, not", x.doingOf(0, 2), 129);
        tell(x, "m03;m03;m03;");
        due(3, "told thrice", x.doingOf(0, 2), 137);
    }

    private static void promise3Room() {
        String eight = "d00000;".repeat(8);
        due(3, "nine DOINGS", tell(new SecondHelping(), eight + "d00000;"), -2056);
        due(3, "eight DOINGS", tell(new SecondHelping(), eight), 8);
        String twelve = "d00000;" + "o0;".repeat(12);
        due(3, "13 places", tell(new SecondHelping(), twelve + "o0;"), -2043);
        due(3, "12 places", tell(new SecondHelping(), twelve), 13);
        due(3, "12 places and one", tell(new SecondHelping(), twelve + "x;o0;"), 15);
        due(3, "13th place later", tell(told(twelve), "l00;o0;"), -2004);
        due(3, "96 letters", tell(new SecondHelping(), "x;".repeat(48)), 48);
        due(3, "95 letters", tell(new SecondHelping(), "x;".repeat(47) + "x"), -1095);
        due(3, "96 letters lack one", tell(new SecondHelping(), "x;".repeat(47) + "l0"), -1096);
    }

    private static void promise4() {
        SecondHelping x = told("d27130;d00000;");
        due(4, "KIND", x.doingOf(0, 0), 2);
        due(4, "FIGURE", x.doingOf(0, 1), 7);
        due(4, "MARKS", x.doingOf(0, 2), 130);
        due(4, "another", x.doingOf(1, 0), 0);
        due(4, "no such", x.doingOf(2, 0), -1);
        due(4, "below", x.doingOf(-1, 3), -1);
        due(4, "what -1", x.doingOf(0, -1), -2);
        due(4, "what 3", x.doingOf(0, 3), -2);
        dues(4, "refusals", refusals(x), 2, 2, 0, 0, 0, 0);
    }

    private static void promise5() {
        SecondHelping x = new SecondHelping();
        due(5, "first", x.doing(5, 9, 255), 0);
        due(5, "second", x.doing(0, 0, 0), 1);
        due(5, "KIND", x.doingOf(0, 0), 5);
        due(5, "FIGURE", x.doingOf(0, 1), 9);
        due(5, "MARKS", x.doingOf(0, 2), 255);
        due(5, "KIND 6", x.doing(6, -1, -1), -2);
        due(5, "KIND -1", x.doing(-1, 10, 0), -2);
        due(5, "FIGURE -1", x.doing(0, -1, 256), -4);
        due(5, "MARKS -1", x.doing(0, 10, -1), -4);
        due(5, "FIGURE 10", x.doing(0, 10, 0), -6);
        due(5, "MARKS 256", x.doing(0, 0, 256), -6);
        for (int d = 2; d < 8; d++) {
            due(5, "number " + d, x.doing(1, 1, d), d);
        }
        due(5, "ninth", x.doing(0, 0, 0), -6);
        due(5, "ninth of KIND 6", x.doing(6, 0, 0), -2);
        due(5, "ninth below", x.doing(0, 0, -1), -4);
        due(5, "DOINGS", x.count(0), 8);
        dues(5, "refusals", refusals(x), 0, 3, 0, 3, 0, 3);
    }

    private static void promise6() {
        SecondHelping x = told(SIX);
        int[] log = {0, 1, 2, 5, 4, 3, 0, 4, 1};
        int[] dues = {0, 2, 0, 6, 0, 0, 16, 4, 12};
        for (int p = 0; p < log.length; p++) {
            due(6, "place " + p, x.does(log[p]), dues[p]);
        }
        due(6, "no such", x.does(6), -1);
        due(6, "below", x.does(-1), -1);
        due(6, "tenth", x.does(2), 6);
        due(6, "eleventh", x.does(3), 0);
        due(6, "twelfth", x.does(3), 0);
        due(6, "thirteenth", x.does(3), -6);
        due(6, "thirteenth of no such", x.does(6), -1);
        due(6, "places", x.count(1), 12);
        due(6, "ECHO at first", told("d59000;").does(0), 0);
        due(6, "SONG", told("d29000;o0;o0;").does(0), 40);
        due(6, "BREAD with 3", told("d49000;o0;o0;o0;").does(0), 40);
    }

    private static void promise7() {
        SecondHelping x = told(SIX, NINE);
        due(7, "nine", x.empties(), 9);
        due(7, "places", x.count(1), 0);
        due(7, "DUE", x.allDue(), 0);
        due(7, "none", x.empties(), 0);
        due(7, "NEXT", x.next(0), 0);
        due(7, "DOINGS", x.count(0), 6);
        due(7, "from the front", x.does(4) + x.place(0, 0), 4);
    }

    private static void promise8() {
        SecondHelping x = told(SIX, NINE);
        due(8, "turned", x.turn(1, 0, 0), 14);
        due(8, "again", x.turn(1, 5, 9), 0);
        due(8, "KIND", x.doingOf(1, 0), 5);
        due(8, "FIGURE", x.doingOf(1, 1), 9);
        due(8, "MARKS", x.doingOf(1, 2), 1);
        due(8, "no such", x.turn(6, 6, -1), -1);
        due(8, "KIND 6", x.turn(0, 6, -1), -2);
        due(8, "KIND -1", x.turn(0, -1, 10), -2);
        due(8, "FIGURE -1", x.turn(0, 0, -1), -4);
        due(8, "FIGURE 10", x.turn(0, 0, 10), -6);
        due(8, "as it was", x.turn(0, 0, 3), 3);
        dues(8, "refusals", refusals(x), 1, 2, 0, 1, 0, 1);
    }

    private static void promise9() {
        SecondHelping x = told("d00001;d00000;");
        due(9, "not any more", x.marks(0, 0), 0);
        due(9, "again", x.marks(0, 0), 1);
        due(9, "mark 7", x.marks(0, 7), 1);
        due(9, "MARKS", x.doingOf(0, 2), 129);
        due(9, "of the other", x.doingOf(1, 2), 0);
        due(9, "mark 8", x.marks(0, 8), -1);
        due(9, "mark -1", x.marks(0, -1), -1);
        due(9, "no such", x.marks(2, 0), -1);
        due(9, "below", x.marks(-1, 0), -1);
        dues(9, "refusals", refusals(x), 4, 0, 0, 0, 0, 0);
    }

    private static void promise10() {
        SecondHelping x = new SecondHelping();
        due(10, "first", x.law(3, 8), 0);
        due(10, "second", x.law(1, 0), 38);
        due(10, "third", x.law(1, 2), 10);
        due(10, "TYPE 4", x.law(4, -1), -2);
        due(10, "TYPE -1", x.law(-1, 9), -2);
        due(10, "T -1", x.law(0, -1), -4);
        due(10, "T 9", x.law(0, 9), -6);
        due(10, "TYPE", x.count(2), 1);
        due(10, "T", x.count(3), 2);
        dues(10, "refusals", refusals(x), 0, 2, 0, 1, 0, 1);
    }

    private static void promise11() {
        SecondHelping x = told("d13001;d00002;");
        due(11, "none", x.back(), -3);
        x.law(2, 5);
        x.does(1);
        x.turn(0, 4, 7);
        x.marks(0, 3);
        due(11, "kept", x.count(8), 4);
        due(11, "MARKS back", x.back(), 3);
        due(11, "MARKS", x.doingOf(0, 2), 1);
        due(11, "KIND not yet", x.doingOf(0, 0), 4);
        due(11, "KIND back", x.back(), 2);
        due(11, "KIND", x.doingOf(0, 0), 1);
        due(11, "FIGURE", x.doingOf(0, 1), 3);
        due(11, "place back", x.back(), 1);
        due(11, "places", x.count(1), 0);
        due(11, "LAW back", x.back(), 0);
        due(11, "TYPE", x.count(2), 0);
        due(11, "T", x.count(3), 0);
        due(11, "no more", x.back(), -3);
        dues(11, "refusals", refusals(x), 0, 0, 2, 0, 0, 0);
        promise11Eight();
        promise11None();
    }

    private static void promise11Eight() {
        SecondHelping x = new SecondHelping();
        for (int t = 0; t <= 8; t++) {
            x.law(1, t);
        }
        x.law(2, 8);
        x.law(2, 9);
        due(11, "eight at most", x.count(8), 8);
        for (int left = 7; left >= 0; left--) {
            due(11, "left", x.back(), left);
        }
        due(11, "older ones no more", x.back(), -3);
        due(11, "T of the oldest", x.count(3), 1);
        due(11, "TYPE of the oldest", x.count(2), 1);
        x.law(1, 1);
        due(11, "counts if all stays", x.count(8), 1);
        SecondHelping y = told("d13001;");
        for (int i = 0; i < 3; i++) {
            y.does(0);
            y.turn(0, 2, i);
            y.marks(0, i);
        }
        for (int i = 0; i < 8; i++) {
            y.back();
        }
        due(11, "oldest place stays", y.count(1), 1);
        due(11, "first KIND", y.doingOf(0, 0), 1);
        due(11, "first FIGURE", y.doingOf(0, 1), 3);
        due(11, "first MARKS", y.doingOf(0, 2), 1);
    }

    private static void promise11None() {
        SecondHelping x = told("d00000;");
        x.does(0);
        x.image();
        due(11, "an image leaves all", x.count(8), 1);
        x.restore();
        due(11, "restore leaves none", x.back(), -3);
        x.does(0);
        x.doing(0, 0, 0);
        due(11, "doing leaves none", x.back(), -3);
        x.does(0);
        x.empties();
        due(11, "empties leaves none", x.back(), -3);
        x.does(0);
        tell(x, "x;");
        due(11, "a STATE leaves none", x.back(), -3);
        x.does(0);
        tell(x, "o7;");
        tell(x, "o");
        x.doing(6, 0, 0);
        due(11, "what is refused leaves all", x.back(), 0);
        x.does(0);
        x.empties();
        x.empties();
        x.law(0, 0);
        x.empties();
        due(11, "empties of none leaves none", x.back(), -3);
    }

    private static void promise12() {
        SecondHelping x = told("d00007;d10007;d00014;d20248;");
        due(12, "marks alike", x.same(0, 1), 1);
        due(12, "marks not alike", x.same(0, 2), 0);
        x.law(1, 0);
        due(12, "kinds alike", x.same(0, 2), 1);
        due(12, "kinds not alike", x.same(0, 1), 0);
        x.law(2, 2);
        due(12, "two shared of 2", x.same(0, 2), 1);
        x.law(2, 3);
        due(12, "two shared of 3", x.same(0, 2), 0);
        x.law(2, 1);
        due(12, "none shared of 1", x.same(0, 3), 0);
        due(12, "one shared of 1", x.same(3, 2), 1);
        x.law(2, 0);
        due(12, "none shared of 0", x.same(0, 3), 1);
        x.law(2, 8);
        due(12, "with itself", x.same(0, 0), 1);
        x.law(3, 1);
        due(12, "two by one, T 1", x.same(2, 0), 0);
        x.law(3, 2);
        due(12, "two by one, T 2", x.same(2, 0), 1);
        x.law(3, 7);
        due(12, "eight by one, T 7", x.same(0, 3), 0);
        x.law(3, 8);
        due(12, "eight by one, T 8", x.same(0, 3), 1);
        due(12, "no such", x.same(0, 4), -1);
        due(12, "no such first", x.same(4, 0), -1);
        due(12, "below", x.same(-1, 0), -1);
        due(12, "below second", x.same(0, -1), -1);
        dues(12, "refusals", refusals(x), 4, 0, 0, 0, 0, 0);
    }

    private static void promise13() {
        SecondHelping x = told(SIX, NINE);
        int[] log = {0, 1, 2, 5, 4, 3, 0, 4, 1};
        int[] repeats = {0, 1, 0, 2, 1, 3, 4, 2, 5};
        int[] dues = {0, 2, 0, 6, 0, 0, 16, 4, 12};
        for (int p = 0; p < 9; p++) {
            due(13, "DOING of " + p, x.place(p, 0), log[p]);
            due(13, "REPEATS of " + p, x.place(p, 1), repeats[p]);
            due(13, "DUE of " + p, x.place(p, 2), dues[p]);
        }
        due(13, "place 9", x.place(9, 0), -1);
        due(13, "place -1", x.place(-1, 3), -1);
        due(13, "what 3", x.place(0, 3), -2);
        due(13, "what -1", x.place(8, -1), -2);
    }

    private static void promise14() {
        SecondHelping x = told(SIX, NINE);
        due(14, "by MARKS", x.allDue(), 40);
        x.law(1, 0);
        due(14, "by KIND", x.allDue(), 6);
        x.law(0, 0);
        x.turn(0, 3, 9);
        due(14, "without the DOING's", x.allDue(), 24);
        due(14, "twelve times", told("d29000;", "o0;".repeat(12)).allDue(), 20 * 66);
    }

    private static void promise15() {
        SecondHelping x = told(SIX, NINE);
        int[] nexts = {24, 15, 6, 0, 8, 12};
        for (int d = 0; d < 6; d++) {
            due(15, "of " + d, x.next(d), nexts[d]);
        }
        due(15, "no such", x.next(6), -1);
        due(15, "below", x.next(-1), -1);
        due(15, "without room", told("d29000;", "o0;".repeat(12)).next(0), 240);
        due(15, "nothing is done", x.count(1), 9);
    }

    private static void promise16() {
        SecondHelping x = told(SIX, NINE);
        due(16, "least", x.best(0), 3);
        due(16, "most", x.best(1), 0);
        due(16, "what 2", x.best(2), -2);
        due(16, "what -1", x.best(-1), -2);
        x.empties();
        due(16, "least of several", x.best(0), 0);
        due(16, "most of several", x.best(1), 0);
        due(16, "no DOINGS", new SecondHelping().best(0), -9);
        due(16, "no DOINGS, most", new SecondHelping().best(1), -9);
        SecondHelping y = told("d05001;d01002;d01002;o0;o1;");
        due(16, "least is 1", y.best(0), 1);
        y.turn(0, 3, 0);
        due(16, "most is 1", y.best(1), 1);
    }

    private static void promise17() {
        SecondHelping x = told(SIX, NINE);
        int[] v = {0, 1, 2, 5, 6, 15, 16, 999};
        int[] places = {1, 1, 3, 3, 6, 6, -9, -9};
        for (int i = 0; i < v.length; i++) {
            due(17, "above " + v[i], x.charged(v[i]), places[i]);
        }
        due(17, "-1", x.charged(-1), -4);
        due(17, "1000", x.charged(1000), -6);
    }

    private static void promise18() {
        SecondHelping x = told(SIX, NINE);
        due(18, "0, 2 and 4", x.order(21, -1), 40);
        due(18, "first", x.order(21, 0), 0);
        due(18, "second", x.order(21, 1), 4);
        due(18, "third", x.order(21, 2), 2);
        due(18, "no fourth", x.order(21, 3), -9);
        due(18, "far", x.order(21, MAX), -9);
        due(18, "0 and 1", x.order(3, -1), 41);
        due(18, "0 ahead of 1", x.order(3, 1), 1);
        due(18, "of none", x.order(0, -1), 0);
        due(18, "none of none", x.order(0, 0), -9);
        due(18, "set -1", x.order(-1, 9), -4);
        due(18, "i -2", x.order(64, -2), -4);
        due(18, "bit 6", x.order(64, -1), -6);
        due(18, "bit 30", x.order(1 << 30, -1), -6);
        due(18, "all six", x.order(63, 6), -9);
        x.doing(0, 0, 16);
        due(18, "seven", x.order(127, -1), -3);
        due(18, "bits of no DOING and more than six", x.order(255, -1), -6);
        dues(18, "refusals", refusals(x), 0, 0, 1, 2, 0, 3);
        SecondHelping y = told("d00000;".repeat(8), "o0;".repeat(12));
        due(18, "room or not", y.order(0xfc, -1), 12 + 13 + 14 + 15 + 16 + 17);
        due(18, "the first of several", y.order(0xfc, 0), 2);
        due(18, "the last of these", y.order(0xfc, 5), 7);
        due(18, "nothing is done", y.count(1), 12);
    }

    private static void promise19() {
        due(19, "two", told(SIX).unlike(), 5);
        due(19, "no DOINGS", new SecondHelping().unlike(), 0);
        SecondHelping x = told("d00001;d00003;d00002;d00128;l21;");
        due(19, "two ends and one", x.unlike(), 13);
        x.law(2, 0);
        due(19, "all the SAME", x.unlike(), 1);
        x.law(2, 8);
        due(19, "all unlike", x.unlike(), 15);
        due(19, "the most, not the first", told("d00003;d00001;d00002;l21;").unlike(), 6);
    }

    private static void promise20() {
        due(20, "four alike", told(SIX).people(), 4);
        due(20, "no DOINGS", new SecondHelping().people(), 0);
        due(20, "one", told("d00000;").people(), 1);
        due(20, "a chain", told("d00001;d00003;d00006;d00004;l21;").people(), 2);
        due(20, "a ring of five", told("d00003;d00006;d00012;d00024;d00017;l21;").people(), 3);
        due(20, "eight alike", told("d00000;".repeat(8)).people(), 8);
        due(20, "eight unlike", told("d00000;d00001;d00002;d00003;d00004;d00005;d00006;d00007;").people(), 1);
    }

    private static void promise21() {
        SecondHelping x = told(SIX);
        due(21, "three", x.like(0), 3);
        due(21, "one", x.like(4), 1);
        due(21, "with most", x.like(-1), 0);
        due(21, "no such", x.like(6), -1);
        due(21, "-2", x.like(-2), -1);
        dues(21, "refusals", refusals(x), 2, 0, 0, 0, 0, 0);
        SecondHelping y = told("d00001;d00003;d00002;d00003;l21;");
        due(21, "the middle", y.like(-1), 1);
        due(21, "of the middle", y.like(1), 3);
        due(21, "of an end", y.like(0), 2);
        due(21, "no DOINGS", new SecondHelping().like(-1), -9);
        due(21, "no DOINGS, 0", new SecondHelping().like(0), -1);
    }

    private static void promise22() {
        SecondHelping x = told(SIX, NINE);
        due(22, "READING", x.reading(0), 10);
        due(22, "that", x.reading(1), 6);
        due(22, "what 2", x.reading(2), -2);
        due(22, "what -1", x.reading(-1), -2);
        due(22, "LAW stays", 10 * x.count(2) + x.count(3), 0);
        SecondHelping y = told("d00003;d00003;d00006;o0;o1;o2;l20;");
        due(22, "by 3 shared or more", y.reading(0), 23);
        due(22, "nothing", y.reading(1), 0);
        due(22, "empty", told("l38;").reading(0), 0);
        SecondHelping z = told("d00127;d00127;o0;o1;");
        due(22, "by 8 shared or more", z.reading(0), 28);
        due(22, "nothing, too", z.reading(1), 0);
    }

    private static void promise23() {
        SecondHelping x = told(SIX, NINE);
        due(23, "empty ROW", x.fits(0), 36);
        due(23, "first of all", x.fits(1), 0);
        rowed(x, 0, 2, 0, 6);
        due(23, "by MARKS", x.fits(0), 12);
        due(23, "it stays", x.fits(0), 12);
        rowed(x, 0, 0);
        due(23, "not the SAME", x.fits(0), 16);
        due(23, "first of these", x.fits(1), 10);
        rowed(x, 1);
        due(23, "none", x.fits(0), 0);
        due(23, "first of none", x.fits(1), -9);
        due(23, "what 2", x.fits(2), -2);
        rowed(x, 0, 2, 0, 6, 0, 0, 16, 4, 12);
        due(23, "as many as places", x.fits(0), 12);
        x.row(0);
        due(23, "more than places", x.fits(0), -3);
        due(23, "what -1 and more than places", x.fits(-1), -2);
        due(23, "ROW stays", x.count(7), 10);
        SecondHelping y = told("d29000;o0;o0;o0;o0;o0;o0;o0;");
        rowed(y, 0, 20, 40, 60, 80, 99, 99);
        due(23, "99 for more", y.fits(0), 36);
        rowed(y, 0, 20, 40, 60, 80, 98);
        due(23, "98 for 100", y.fits(0), 0);
        SecondHelping z = told("d00003;d00003;d00006;o0;o1;o2;");
        rowed(z, 0, 1, 2);
        due(23, "the first by 2", z.fits(1), 10);
        z.turn(2, 1, 9);
        rowed(z, 0, 1, 10);
        due(23, "the first by what is shared", z.fits(1), 20);
        SecondHelping last = rowed(told("d00127;d00127;o0;o1;"), 0, 0);
        due(23, "one alone", last.fits(0), 1);
        due(23, "by 8 shared or more", last.fits(1), 28);
    }

    private static void promise24() {
        SecondHelping x = told(SIX, NINE);
        due(24, "the DOING", x.tellsMost(0), 0);
        due(24, "how many", x.tellsMost(1), 3);
        rowed(x, 0, 2);
        due(24, "parts of fewer", x.tellsMost(1), 2);
        due(24, "ROW stays", x.count(7), 2);
        rowed(x, 1);
        due(24, "none fits", x.tellsMost(0), -9);
        due(24, "none fits, how many", x.tellsMost(1), -9);
        due(24, "what 2", x.tellsMost(2), -2);
        x.empties();
        due(24, "more than places", x.tellsMost(0), -3);
        due(24, "what -1 and more than places", x.tellsMost(-1), -2);
        due(24, "no DOINGS", new SecondHelping().tellsMost(0), -9);
        due(24, "no DOINGS, how many", new SecondHelping().tellsMost(1), -9);
        SecondHelping y = told("d30000;d00000;d10000;o1;o2;");
        due(24, "not the BREATH", y.tellsMost(0), 1);
        due(24, "1 or 2", y.tellsMost(1), 2);
        SecondHelping z = told("d20000;d29001;", "o0;".repeat(6));
        due(24, "beyond 99", z.tellsMost(0), 1);
        due(24, "0 or 120", z.tellsMost(1), 2);
        due(24, "T 8, too", told("d00127;d00127;o0;o1;").tellsMost(1), 2);
    }

    private static void promise25() {
        SecondHelping x = told(SIX, NINE);
        due(25, "DOING 0, MARK 0", x.loophole(), 0);
        due(25, "MARKS stay", x.doingOf(0, 2), 1);
        due(25, "nothing DUE", told(SIX).loophole(), -9);
        due(25, "DOING 1", told("d30128;d00001;d00001;o1;o2;").loophole(), 10);
        due(25, "DOING 1, MARK 1", told("d30128;d00006;d00006;o1;o2;l22;").loophole(), 11);
        due(25, "MARK 7", told("d30000;d00128;d00128;o1;o2;l21;").loophole(), 17);
        due(25, "by itself", told("d00000;o0;o0;").loophole(), -9);
        due(25, "by KIND", told("d00000;d00001;o0;o1;l10;").loophole(), -9);
    }

    private static void promise26() {
        SecondHelping x = told("d00000;o0;o0;o0;o0;");
        due(26, "1 and 1", x.shared(0), 2);
        due(26, "the first two", x.shared(1), 3);
        due(26, "what 2", x.shared(2), -2);
        due(26, "what -1", x.shared(-1), -2);
        due(26, "empty", new SecondHelping().shared(0), 0);
        due(26, "empty, places", new SecondHelping().shared(1), 0);
        due(26, "nothing to share", told(SIX, "o0;o2;").shared(1), 0);
        SecondHelping y = told("d00001;d05001;d30001;o2;o0;o1;");
        due(26, "2 helps nobody", y.shared(0), 1);
        due(26, "0 and 2 together", y.shared(1), 3);
        SecondHelping z = told("d00000;", "o0;".repeat(12));
        due(26, "six each", z.shared(0), 30);
        due(26, "the first six", z.shared(1), 63);
        due(26, "LOG stays", z.allDue(), 66);
    }

    private static void promise27() {
        SecondHelping x = told(SIX, NINE);
        int[] saved = {10, 10, 4, 12, 4, 6, 18, 4, 12};
        for (int p = 0; p < 9; p++) {
            due(27, "of " + p, x.saves(p), saved[p]);
        }
        due(27, "most", x.saves(-1), 6);
        due(27, "place 9", x.saves(9), -1);
        due(27, "-2", x.saves(-2), -1);
        due(27, "empty", told(SIX).saves(-1), -9);
        due(27, "empty, 0", told(SIX).saves(0), -1);
        due(27, "nothing to save", told(SIX, "o3;o2;").saves(-1), 0);
        due(27, "LOG stays", x.allDue(), 40);
        x.law(1, 0);
        due(27, "most by KIND", x.saves(-1), 0);
        due(27, "of 6 by KIND", x.saves(6), 4);
    }

    private static void promise28() {
        SecondHelping x = told(SIX, NINE);
        due(28, "from behind", x.turned(), 45);
        due(28, "LOG stays", x.allDue(), 40);
        due(28, "empty", told(SIX).turned(), 0);
        due(28, "two", told("d03000;d30000;o0;o1;").turned(), 4);
    }

    private static void promise29() {
        due(29, "0 and 2", told("d30001;d03001;o0;o0;o1;").changed(), 2);
        SecondHelping x = told("d30001;d03001;o1;o0;o1;");
        due(29, "1 and 2", x.changed(), 102);
        due(29, "LOG stays", x.place(1, 0), 0);
        due(29, "the first of several", told("d30001;d03001;d30128;o2;o0;o0;o1;").changed(), 3);
        due(29, "not less", told("d00001;o0;o0;").changed(), -9);
        due(29, "empty", new SecondHelping().changed(), -9);
        due(29, "far", told("d30001;d00001;", "o1;".repeat(10) + "o0;o1;").changed(), 1011);
    }

    private static void promise30() {
        SecondHelping x = told("d00003;d00001;d00002;d00012;d30015;");
        due(30, "fewest", x.wants(15, 0), 16);
        due(30, "cheapest of several", x.wants(15, 1), 9);
        due(30, "for nothing", x.wants(15, 2), 0);
        x.does(0);
        due(30, "not 0", x.wants(15, 1), 14);
        x.does(3);
        due(30, "not 3", x.wants(15, 1), 16);
        due(30, "fewest still", x.wants(15, 0), 16);
        due(30, "several fewest", x.wants(3, 0), 1);
        for (int what = 0; what < 3; what++) {
            due(30, "nobody", x.wants(16, what), -9);
            due(30, "nothing wanted", x.wants(0, what), 0);
        }
        due(30, "-1", x.wants(-1, 3), -4);
        due(30, "256", x.wants(256, 3), -6);
        due(30, "what 3", x.wants(255, 3), -2);
        due(30, "what -1", x.wants(0, -1), -2);
        SecondHelping y = told("d05001;d03002;d29003;o0;o1;o2;");
        due(30, "one does", y.wants(3, 0), 4);
        due(30, "two are cheaper", y.wants(3, 1), 3);
        due(30, "10 together", y.wants(3, 2), 10);
        due(30, "all eight", told("d00001;d00002;d00004;d00008;d00016;d00032;d00064;d00128;").wants(255, 0), 255);
        due(30, "nobody without DOINGS", new SecondHelping().wants(1, 1), -9);
    }

    private static void promise31() {
        SecondHelping x = told("d00001;d00001;d00002;");
        due(31, "no DOING", x.songs(0, 2), 1);
        due(31, "as one likes", x.songs(3, 0), 27);
        due(31, "two, g 1", x.songs(2, 1), 4);
        due(31, "three, g 1", x.songs(3, 1), 6);
        due(31, "two, g 2", x.songs(2, 2), 4);
        due(31, "three, g 2", x.songs(3, 2), 0);
        due(31, "one, g 2", x.songs(1, 2), 3);
        due(31, "n -1", x.songs(-1, 3), LONG + 4);
        due(31, "g -1", x.songs(9, -1), LONG + 4);
        due(31, "n 9", x.songs(9, 0), LONG + 6);
        due(31, "g 3", x.songs(0, 3), LONG + 6);
        dues(31, "refusals", refusals(x), 0, 0, 0, 2, 0, 2);
        SecondHelping y = told("d00000;d00001;d00002;d00003;d00004;d00005;d00006;d00007;");
        due(31, "8 of 8", y.songs(8, 0), 16777216);
        due(31, "8 of 8, g 1", y.songs(8, 1), 8 * 823543);
        due(31, "8 of 8, g 2", y.songs(8, 2), 56 * 46656);
        due(31, "no DOINGS", new SecondHelping().songs(0, 0), 1);
        due(31, "no DOINGS, n 1", new SecondHelping().songs(1, 0), 0);
    }

    private static void promise32() {
        SecondHelping x = told("d00001;d00002;d00004;d00008;d00016;");
        due(32, "by 2", x.inspectors(2), 6);
        due(32, "by 5", x.inspectors(5), 2);
        due(32, "by 9", x.inspectors(9), 6);
        due(32, "0", x.inspectors(0), -4);
        due(32, "-1", x.inspectors(-1), -4);
        due(32, "10", x.inspectors(10), -6);
        x.marks(3, 3);
        x.marks(3, 0);
        due(32, "3 is as 0, by 2", x.inspectors(2), 5);
        due(32, "3 is as 0, by 9", x.inspectors(9), 3);
        due(32, "3 is as 0, by 1", x.inspectors(1), 4);
        due(32, "alone", told("d00000;").inspectors(1), 2);
        due(32, "none", new SecondHelping().inspectors(1), -9);
    }

    private static void chance(String what, SecondHelping x, int n, long above, long below) {
        due(33, what + ", above", x.chance(n, 0), above);
        due(33, what + ", below", x.chance(n, 1), below);
    }

    private static void promise33() {
        SecondHelping none = new SecondHelping();
        chance("no DOINGS", none, 0, 1, 1);
        chance("one of no DOINGS", none, 1, 0, 1);
        chance("five of no DOINGS", none, 5, 0, 1);
        SecondHelping one = told("d00001;o0;");
        chance("none of one", one, 0, 1, 1);
        chance("one of one", one, 1, 1, 1);
        chance("two of one", one, 2, 0, 1);
        chance("two of two", told("d00001;d00002;"), 2, 1, 2);
        chance("three of two", told("d00001;d00002;"), 3, 0, 1);
        chance("two of KISS", told("d10001;"), 2, 1, 1);
        chance("three of KISS", told("d10001;"), 3, 0, 1);
        SecondHelping breath = told("d00001;d30002;");
        chance("two with BREATH", breath, 2, 3, 4);
        chance("five with BREATH", breath, 5, 3, 16);
        chance("SAME as BREATH", told("d00001;d30001;"), 2, 1, 2);
        chance("five of eight BREATHS", told("d30001;".repeat(8)), 5, 1, 1);
        chance("five of eight", told("d00000;d00001;d00002;d00003;d00004;d00005;d00006;d00007;"), 5, 105, 512);
        due(33, "n -1", breath.chance(-1, 2), LONG + 4);
        due(33, "n 6", breath.chance(6, 2), LONG + 6);
        due(33, "part 2", breath.chance(5, 2), LONG + 2);
        due(33, "part -1", breath.chance(0, -1), LONG + 2);
        dues(33, "refusals", refusals(breath), 0, 2, 0, 1, 0, 1);
    }

    private static void promise34() {
        SecondHelping x = told(SIX, NINE);
        due(34, "above", x.mean(0), 65);
        due(34, "below", x.mean(1), 6);
        due(34, "part 2", x.mean(2), LONG + 2);
        due(34, "part -1", x.mean(-1), LONG + 2);
        x.empties();
        due(34, "nothing, above", x.mean(0), 0);
        due(34, "nothing, below", x.mean(1), 1);
        SecondHelping y = told("d01001;d00002;d00004;d00008;o0;");
        due(34, "2 over 4, above", y.mean(0), 1);
        due(34, "2 over 4, below", y.mean(1), 2);
        due(34, "none, above", new SecondHelping().mean(0), 0);
        due(34, "none, below", new SecondHelping().mean(1), 1);
    }

    private static void promise35() {
        SecondHelping x = told("d00001;d00006;d00007;d00014;");
        due(35, "1 and 2", x.twins(0), 12);
        due(35, "two", x.twins(1), 2);
        due(35, "what 2", x.twins(2), -2);
        due(35, "what -1", x.twins(-1), -2);
        SecondHelping y = told("d00001;d00002;");
        due(35, "none shared", y.twins(0), 1);
        due(35, "none", y.twins(1), 0);
        due(35, "one DOING", told("d00001;").twins(0), -9);
        due(35, "one DOING, how many", told("d00001;").twins(1), -9);
    }

    private static void promise36() {
        SecondHelping x = told("d00001;d00003;d00006;d00128;d00004;l21;");
        due(36, "to itself", x.chain(3, 3), 1);
        due(36, "two", x.chain(0, 1), 2);
        due(36, "three", x.chain(0, 2), 3);
        due(36, "four", x.chain(4, 0), 4);
        due(36, "none", x.chain(0, 3), -9);
        due(36, "no such", x.chain(5, 0), -1);
        due(36, "no such second", x.chain(0, 5), -1);
        due(36, "below", x.chain(-1, 0), -1);
        due(36, "below second", x.chain(0, -1), -1);
        SecondHelping y = told("d00001;d00003;d00006;d00012;d00024;d00048;d00096;d00192;l21;");
        due(36, "eight", y.chain(0, 7), 8);
    }

    private static void promise37() {
        SecondHelping x = told("d00001;d00128;d00003;d00006;d00004;d00064;l21;");
        due(37, "heaps", x.heaps(0), 3);
        due(37, "most", x.heaps(1), 4);
        due(37, "what 2", x.heaps(2), -2);
        due(37, "what -1", x.heaps(-1), -2);
        due(37, "none", new SecondHelping().heaps(0), 0);
        due(37, "none, most", new SecondHelping().heaps(1), 0);
        SecondHelping y = told("d00192;d00001;d00096;d00003;d00048;d00006;d00024;d00012;l21;");
        due(37, "one heap", y.heaps(0), 1);
        due(37, "of eight", y.heaps(1), 8);
    }

    private static void promise38() {
        SecondHelping x = told(SIX, NINE);
        due(38, "two", x.pure(0), 2);
        due(38, "from 1", x.pure(1), 1);
        due(38, "what 2", x.pure(2), -2);
        due(38, "what -1", x.pure(-1), -2);
        due(38, "empty", told(SIX).pure(0), 0);
        due(38, "empty, first", told(SIX).pure(1), -9);
        SecondHelping y = told("d00001;d00002;d00004;o0;o0;o1;o0;o1;o2;o2;");
        due(38, "three", y.pure(0), 3);
        due(38, "from 3", y.pure(1), 3);
        y.law(2, 0);
        due(38, "one", y.pure(0), 1);
        due(38, "from 0", y.pure(1), 0);
    }

    private static void promise39() {
        SecondHelping x = told("d00001;d00003;d00002;o0;o1;o2;l20;");
        due(39, "2 shared or more", x.bestT(), 2);
        due(39, "T stays", x.count(3), 0);
        x.law(3, 8);
        due(39, "none by just one", x.bestT(), 0);
        x.law(1, 5);
        due(39, "by KIND", x.bestT(), 0);
        due(39, "eight shared or more", told("d00127;d00127;o0;o1;l22;").bestT(), 8);
        due(39, "new", new SecondHelping().bestT(), 0);
    }

    private static void promise40() {
        SecondHelping x = told("d00001;d30002;d20004;o0;");
        int[] v = {0, 1, 2, 3, 5, 6, 999};
        int[] times = {0, 1, 1, 2, 2, 3, 44};
        for (int i = 0; i < v.length; i++) {
            due(40, "v " + v[i], x.margin(0, v[i]), times[i]);
        }
        due(40, "BREATH", x.margin(1, 0), 60);
        due(40, "SONG not yet done", x.margin(2, 0), 1);
        due(40, "SONG", x.margin(2, 6), 3);
        due(40, "no such", x.margin(3, -1), -1);
        due(40, "-1", x.margin(0, -1), -4);
        due(40, "1000", x.margin(0, 1000), -6);
        due(40, "nothing is done", x.count(1), 1);
    }

    private static void promise41() {
        due(41, "0 and 2", told(SIX, NINE).firsts(), 5);
        due(41, "none", told(SIX).firsts(), 0);
        due(41, "BREAD owes nothing, but", told("d40000;o0;o0;").firsts(), 1);
        due(41, "all", told("d00001;d00002;d00004;o2;o0;o1;").firsts(), 7);
    }

    private static void promise42() {
        SecondHelping x = told("d01001;d00002;");
        int[] sums = {0, 0, 0, 1, 3, 5};
        int[] lasts = {-9, 0, 1, 1, 0, 1};
        for (int n = 0; n < 6; n++) {
            due(42, n + " times", x.greedily(n, 0), sums[n]);
            due(42, "last of " + n, x.greedily(n, 1), lasts[n]);
        }
        due(42, "-1", x.greedily(-1, 2), -4);
        due(42, "13", x.greedily(13, 2), -6);
        due(42, "what 2", x.greedily(12, 2), -2);
        due(42, "what -1", x.greedily(0, -1), -2);
        due(42, "no DOINGS", new SecondHelping().greedily(12, 0), 0);
        due(42, "no DOINGS, last", new SecondHelping().greedily(12, 1), -9);
        due(42, "behind THE LOG", told("d00000;", "o0;".repeat(12)).greedily(2, 0), 25);
        due(42, "nothing is done", x.count(1), 0);
    }

    private static void promise43() {
        SecondHelping x = told("d01001;d00002;d10004;o2;o2;o2;o2;");
        due(43, "of none", x.pair(0, 0), 1);
        due(43, "that of none", x.pair(0, 1), 0);
        due(43, "twice", x.pair(2, 0), 12);
        due(43, "that", x.pair(2, 1), 1);
        due(43, "three times", x.pair(3, 1), 4);
        due(43, "-1", x.pair(-1, 2), -4);
        due(43, "7", x.pair(7, 2), -6);
        due(43, "what 2", x.pair(6, 2), -2);
        due(43, "what -1", x.pair(0, -1), -2);
        SecondHelping y = told("d01001;d00001;");
        due(43, "the lesser first", y.pair(1, 1), 1);
        due(43, "by turns", y.pair(2, 1), 8);
        due(43, "one DOING", told("d00000;").pair(1, 0), -9);
        due(43, "one DOING, that", told("d00000;").pair(1, 1), -9);
    }

    private static void promise44() {
        SecondHelping x = told("d01001;d00002;");
        int[] v = {0, 1, 2, 3, 4, 5};
        int[] times = {2, 3, 3, 4, 4, 5};
        for (int i = 0; i < v.length; i++) {
            due(44, "v " + v[i], x.quota(v[i]), times[i]);
        }
        due(44, "-1", x.quota(-1), -4);
        due(44, "1000", x.quota(1000), -6);
        due(44, "BREATH", told("d39000;").quota(0), 60);
        due(44, "no DOINGS", new SecondHelping().quota(0), 60);
        due(44, "999", told("d00000;o0;").quota(999), 44);
        due(44, "nothing is done", x.count(1), 0);
    }

    private static void promise45() {
        SecondHelping x = told("d00000;d00001;d00255;");
        due(45, "RADIUS", x.radius(0), 8);
        due(45, "CENTRE", x.radius(1), 1);
        due(45, "what 2", x.radius(2), -2);
        due(45, "what -1", x.radius(-1), -2);
        due(45, "none", new SecondHelping().radius(0), 0);
        due(45, "none, CENTRE", new SecondHelping().radius(1), -9);
        due(45, "one", told("d00255;").radius(0), 0);
        due(45, "one, CENTRE", told("d00255;").radius(1), 0);
        // 1 is 3 from each, 0 is 6 from one: but of all together 0 has fewest, 9 to 12.
        SecondHelping y = told("d00000;d00007;d00000;d00000;d00063;");
        due(45, "fewest together", y.radius(1), 0);
    }

    private static void promise46() {
        due(46, "two of three", told("d00003;d00001;d00004;").majority(), 1);
        due(46, "half is not more", told("d00003;d00001;").majority(), 1);
        due(46, "one", told("d00255;").majority(), 255);
        due(46, "none", new SecondHelping().majority(), 0);
    }

    private static void promise47() {
        SecondHelping x = told(SIX, NINE);
        int[] sums = {16, 14, 0, 0, 4, 6};
        for (int kind = 0; kind < 6; kind++) {
            due(47, "KIND " + kind, x.byKind(kind), sums[kind]);
        }
        due(47, "most", x.byKind(-1), 0);
        x.turn(0, 3, 0);
        due(47, "then most", x.byKind(-1), 1);
        due(47, "6", x.byKind(6), -2);
        due(47, "-2", x.byKind(-2), -2);
        due(47, "nothing DUE", told(SIX, "o5;").byKind(-1), 0);
        due(47, "empty", told(SIX).byKind(-1), -9);
        due(47, "empty, 0", told(SIX).byKind(0), 0);
    }

    private static void promise48() {
        SecondHelping x = told(SIX, NINE);
        due(48, "0", x.banned(0), 0);
        due(48, "15", x.banned(1), 15);
        due(48, "what 2", x.banned(2), -2);
        due(48, "what -1", x.banned(-1), -2);
        due(48, "empty", told(SIX).banned(0), -9);
        due(48, "empty, that", told(SIX).banned(1), -9);
        SecondHelping y = told("d00000;d00001;d00002;o1;o1;o2;");
        due(48, "of those in THE LOG", y.banned(0), 1);
        due(48, "then nothing", y.banned(1), 0);
        due(48, "LOG stays", y.count(1), 3);
        due(48, "of several the least", told("d00001;d00002;d00004;o2;o1;").banned(0), 1);
    }

    private static void promise49() {
        SecondHelping x = told(SIX, NINE);
        int[] sums = {50, 42, 40, 38, 40, 34, 42, 40, 40};
        for (int p = 0; p < 9; p++) {
            due(49, "of " + p, x.moved(p), sums[p]);
        }
        due(49, "least", x.moved(-1), 5);
        due(49, "place 9", x.moved(9), -1);
        due(49, "-2", x.moved(-2), -1);
        due(49, "not less", told("d00000;o0;o0;").moved(-1), -9);
        due(49, "empty", told(SIX).moved(-1), -9);
        due(49, "empty, 0", told(SIX).moved(0), -1);
        due(49, "LOG stays", x.place(5, 0), 3);
    }

    private static void promise50() {
        due(50, "two", told(SIX).unlikeMarks(), 2);
        due(50, "none", new SecondHelping().unlikeMarks(), 0);
        due(50, "three, whatever THE LAW", told("d00000;d00255;d00000;d00001;l38;").unlikeMarks(), 3);
    }

    private static void promise51() {
        SecondHelping x = told(SIX, NINE);
        due(51, "two", x.streak(), 2);
        x.law(2, 0);
        due(51, "nine", x.streak(), 9);
        x.law(1, 0);
        due(51, "one", x.streak(), 1);
        due(51, "none", told(SIX).streak(), 0);
        due(51, "each as the one ahead", told("d00001;d00003;d00002;d00128;o0;o1;o2;o3;l21;").streak(), 3);
    }

    private static void promise52() {
        SecondHelping x = new SecondHelping();
        due(52, "0", x.row(0), 1);
        due(52, "99", x.row(99), 2);
        due(52, "-1", x.row(-1), -4);
        due(52, "100", x.row(100), -6);
        for (int i = 3; i <= 12; i++) {
            due(52, "number " + i, x.row(i), i);
        }
        due(52, "13th", x.row(0), -6);
        due(52, "13th below", x.row(-1), -4);
        due(52, "how many", x.count(7), 12);
    }

    private static void promise53() {
        SecondHelping x = told(SIX, "o0;o1;o2;");
        due(53, "empty ROW", x.judge(), -9);
        due(53, "all so", rowed(x, 0, 1, 2).judge(), -9);
        due(53, "ROW is empty then", x.count(7), 0);
        due(53, "first two so", rowed(x, 0, 1).judge(), -9);
        due(53, "1 is not so", rowed(x, 0, 2, 1).judge(), 1);
        due(53, "ROW is empty then, too", x.count(7), 0);
        due(53, "no such place", rowed(x, 0, 1, 2, 0).judge(), 3);
        due(53, "no such DOING", rowed(x, 99).judge(), 0);
        due(53, "empty LOG", rowed(told(SIX), 0).judge(), 0);
    }

    private static void promise54() {
        SecondHelping x = rowed(told(SIX), 5, 6, 7);
        due(54, "three", x.clear(), 3);
        due(54, "none", x.clear(), 0);
        due(54, "from the front", x.row(9), 1);
    }

    private static void promise55() {
        SecondHelping x = told("d00000;o0;");
        due(55, "a week", x.lots(1, 7, 0), 66);
        due(55, "20 weeks", x.lots(20, MIN, 0), 1320);
        due(55, "nothing in none", x.lots(20, 7, 1), 0);
        due(55, "0", x.lots(0, 7, 2), -4);
        due(55, "-1", x.lots(-1, 7, 0), -4);
        due(55, "21", x.lots(21, 7, 2), -6);
        due(55, "what 2", x.lots(20, 7, 2), -2);
        due(55, "what -1", x.lots(1, -7, -1), -2);
        due(55, "BREATH", told("d30000;").lots(5, 7, 1), 5);
        due(55, "no DOINGS", new SecondHelping().lots(5, 7, 0), 0);
        due(55, "no DOINGS, weeks", new SecondHelping().lots(5, 7, 1), 0);
        due(55, "LOG stays", x.count(1), 1);
        promise55Draws(1);
        promise55Draws(-77);
    }

    /** Draws without an int that wraps: what is over 31 bits never comes back. */
    private static void promise55Draws(int seed) {
        BigInteger z = BigInteger.valueOf(seed);
        int owed = 0;
        int freeWeeks = 0;
        for (int week = 0; week < 3; week++) {
            int[] drawn = new int[3];
            for (int i = 0; i < 12; i++) {
                z = z.multiply(BigInteger.valueOf(1103515245)).add(BigInteger.valueOf(12345));
                drawn[z.mod(BigInteger.ONE.shiftLeft(31)).shiftRight(16).intValue() % 3]++;
            }
            int due = drawn[0] * (drawn[0] - 1) / 2 * 10 + drawn[1] * (drawn[1] - 1) / 2;
            owed += due;
            freeWeeks += due == 0 ? 1 : 0;
        }
        SecondHelping x = told("d09001;d00002;d30004;");
        due(55, "three DOINGS from " + seed, x.lots(3, seed, 0), owed);
        due(55, "free weeks from " + seed, x.lots(3, seed, 1), freeWeeks);
    }

    private static void promise56() {
        SecondHelping x = told(SIX, NINE);
        due(56, "nine", x.image(), 9);
        x.empties();
        due(56, "none", x.image(), 0);
        due(56, "it is the later one", x.restore(), 0);
    }

    private static void promise57() {
        SecondHelping x = told(SIX, NINE, "l12;");
        due(57, "none", x.restore(), -3);
        x.image();
        x.empties();
        x.turn(0, 5, 5);
        x.marks(1, 7);
        x.law(3, 3);
        x.doing(0, 0, 0);
        x.does(6);
        x.row(4);
        x.feed('x');
        x.next(9);
        due(57, "nine", x.restore(), 9);
        due(57, "DOINGS", x.count(0), 6);
        due(57, "TYPE", x.count(2), 1);
        due(57, "T", x.count(3), 2);
        due(57, "KIND", x.doingOf(0, 0), 0);
        due(57, "FIGURE", x.doingOf(0, 1), 3);
        due(57, "MARKS", x.doingOf(1, 2), 1);
        due(57, "place", x.place(3, 0), 5);
        due(57, "the ROW stays", x.count(7), 1);
        due(57, "letters stay", x.count(6), 1);
        due(57, "REFUSALS stay", x.count(11), 1);
        due(57, "REFUSALS -3 stay", x.count(13), 1);
        x.empties();
        due(57, "again", x.restore(), 9);
        due(57, "DUE", x.allDue(), 6);
    }

    private static void promise58() {
        SecondHelping x = told(SIX, NINE, "l23;");
        x.law(3, 0);
        x.law(3, 1);
        x.row(1);
        x.row(1);
        x.row(1);
        feed(x, "abcd");
        int[] counts = {6, 9, 3, 1, 40, 6, 4, 3, 2};
        for (int what = 0; what < counts.length; what++) {
            due(58, "what " + what, x.count(what), counts[what]);
        }
        for (int i = 1; i <= 6; i++) {
            x.feed(-1);
            x.feed(i < 6 ? 256 : 0);
            x.next(i < 4 ? -1 : 0);
            x.best(i < 3 ? 2 : 0);
        }
        new SecondHelping().restore();
        x.restore();
        x.songs(-1, 0);
        x.chance(0, 2);
        dues(58, "refusals", refusals(x), 3, 3, 1, 7, 0, 5);
        int[] others = {-1, 9, 10, 17, 18, MIN, MAX};
        for (int what : others) {
            due(58, "what " + what, x.count(what), -9);
        }
        dues(58, "refusals then", refusals(x), 3, 3, 1, 7, 0, 5);
        due(58, "MARKS of all", told("d00255;d00128;d00003;").count(5), 11);
    }

    public static void main(String[] args) {
        promise1();
        promise2();
        promise3();
        promise4();
        promise5();
        promise6();
        promise7();
        promise8();
        promise9();
        promise10();
        promise11();
        promise12();
        promise13();
        promise14();
        promise15();
        promise16();
        promise17();
        promise18();
        promise19();
        promise20();
        promise21();
        promise22();
        promise23();
        promise24();
        promise25();
        promise26();
        promise27();
        promise28();
        promise29();
        promisesFrom30();
        promisesFrom45();
        end("all promises hold");
    }

    private static void promisesFrom30() {
        promise30();
        promise31();
        promise32();
        promise33();
        promise34();
        promise35();
        promise36();
        promise37();
        promise38();
        promise39();
        promise40();
        promise41();
        promise42();
        promise43();
        promise44();
    }

    private static void promisesFrom45() {
        promise45();
        promise46();
        promise47();
        promise48();
        promise49();
        promise50();
        promise51();
        promise52();
        promise53();
        promise54();
        promise55();
        promise56();
        promise57();
        promise58();
    }
}
