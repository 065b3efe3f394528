import java.util.List;

/**
 * The edges that the document names for all that makes, tells or changes an
 * object: promises 1 to 11, 52 to 54 and 56 to 58. Each number just below the
 * least, the least, the greatest, the one just above; nothing there; all full.
 */
public final class ChangingEdgesTest extends Checks {
    private static final String EIGHT = "d00000;".repeat(8);
    private static final String TWELVE = "o0;".repeat(12);

    // ---- 1: a new object ----

    private static void newObject() {
        SecondHelping x = new SecondHelping();
        String[] names = {"DOINGS", "places", "TYPE", "T", "ALL DUE", "MARKS", "letters", "numbers", "to take back"};
        for (int what = 0; what < names.length; what++) {
            due(1, names[what], x.count(what), 0);
        }
        dues(1, "REFUSALS", refusals(x), 0, 0, 0, 0, 0, 0);
        due(1, "no DOING 0", x.doingOf(0, 0), -1);
        due(1, "no place 0", x.place(0, 0), -1);
        due(1, "nothing to take back", x.back(), -3);
        due(1, "no image", x.restore(), -3);
        due(1, "first number of a DOING", x.doing(0, 0, 0), 0);
        due(1, "TYPE and T at first", x.law(0, 0), 0);
        SecondHelping other = told("d59255;l38;o0;");
        other.row(5);
        other.image();
        other.feed(5);
        other.next(5);
        SecondHelping third = new SecondHelping();
        for (int what = 0; what < names.length; what++) {
            due(1, names[what] + " of a third", third.count(what), 0);
        }
        dues(1, "REFUSALS of a third", refusals(third), 0, 0, 0, 0, 0, 0);
        due(1, "a third has no image", third.restore(), -3);
        due(1, "the other has its own", other.count(5), 8);
    }

    // ---- 2: letters ----

    private static void letters() {
        SecondHelping x = new SecondHelping();
        due(2, "letter 0", x.feed(0), 1);
        due(2, "letter 1", x.feed(1), 2);
        due(2, "letter 254", x.feed(254), 3);
        due(2, "letter 255", x.feed(255), 4);
        due(2, "letter 256", x.feed(256), -6);
        due(2, "letter -1", x.feed(-1), -4);
        for (int i = 5; i <= 95; i++) {
            x.feed(';');
        }
        due(2, "96th", x.feed(255), 96);
        due(2, "97th", x.feed(255), -6);
        due(2, "97th, 0", x.feed(0), -6);
        due(2, "97th, -1", x.feed(-1), -4);
        due(2, "97th, 256", x.feed(256), -6);
        due(2, "96 stay", x.count(6), 96);
        due(2, "all of them are the text", x.state(), -1000);
        due(2, "none then", x.count(6), 0);
        due(2, "first again", x.feed('x'), 1);
        x.feed(256);
        x.feed(-1);
        due(2, "refused letters are not of the text", x.feed(';'), 2);
        due(2, "STATE of those that came", x.state(), 1);
        due(2, "first again behind a STATE", x.feed(0), 1);
    }

    // ---- 3: a state's form ----

    private static int onNew(String text) {
        return tell(new SecondHelping(), text);
    }

    /** Letters that can't stand where this one of a form does, those beside it in the table of signs first. */
    private static String oddFor(char letter) {
        switch (letter) {
            case '0':
                return "/: ;x-" + (char) 0 + (char) 255;
            case ';':
                return ":<09 ,dx" + (char) 0 + (char) 255;
            default:
                return "acceknpwyDOLMX09;: " + (char) 0 + (char) 255;
        }
    }

    private static void forms() {
        for (String form : new String[] {"d00000;", "o0;", "l00;", "m00;", "x;"}) {
            for (int i = 0; i < form.length(); i++) {
                String begun = form.substring(0, i);
                String rest = form.substring(i + 1);
                due(3, "it ends with '" + begun + "'", onNew(begun), -1000 - i);
                if (i > 0) {
                    due(3, "x; and it ends with '" + begun + "'", onNew("x;" + begun), -1002 - i);
                }
                for (char odd : oddFor(form.charAt(i)).replace(form.substring(i, i + 1), "").toCharArray()) {
                    String text = begun + odd + rest;
                    due(3, "'" + text + "' with sign " + (int) odd, onNew(text), -1000 - i);
                    due(3, "behind d00000; '" + text + "' with sign " + (int) odd, onNew("d00000;" + text), -1007 - i);
                }
            }
        }
    }

    private static void digits() {
        due(3, "all 0", onNew("d00000;o0;l00;m00;"), 4);
        due(3, "all 9 of d", onNew("d99999;"), -2000);
        due(3, "all 9 of o", onNew("o9;"), -2000);
        due(3, "all 9 of l", onNew("l99;"), -2000);
        due(3, "all 9 of m", onNew("m99;"), -2000);
        due(3, "MARKS by hundreds, tens, ones", told("d00123;").doingOf(0, 2), 123);
        due(3, "MARKS of 010", told("d00010;").doingOf(0, 2), 10);
        due(3, "KIND ahead of FIGURE", told("d12000;").doingOf(0, 0), 1);
        due(3, "FIGURE behind KIND", told("d12000;").doingOf(0, 1), 2);
        due(3, "TYPE ahead of T", told("l12;").count(2), 1);
        due(3, "T behind TYPE", told("l12;").count(3), 2);
        due(3, "DOING ahead of MARK", told("d00000;d00000;m12;").doingOf(1, 2), 4);
    }

    private static void kindsOfFault() {
        due(3, "no STATEMENT", onNew(""), -1000);
        due(3, "one STATEMENT", onNew("x;"), 1);
        due(3, "form goes first, later", onNew("o9;q"), -1003);
        due(3, "form goes first, at the end", onNew("d60000;o0"), -1009);
        due(3, "form goes first, in the same", onNew("d6000"), -1005);
        due(3, "the first of two impossible", onNew("x;o0;l40;"), -2002);
        due(3, "place of the STATEMENT, not of its digit", onNew("d00256;"), -2000);
        due(3, "behind all ahead of it", onNew("o0;d00000;"), -2000);
        due(3, "possible behind what is ahead", onNew("d00000;o0;"), 2);
        due(3, "beyond the last letter nothing of an older text", tell(told("x;x;x;"), "x;"), 1);
        due(3, "lacks what an older text had", tell(told("d00000;"), "d0"), -1002);
    }

    // ---- 3: what a statement must be ----

    private static void goes(String before, String statement) {
        SecondHelping x = told(before);
        due(3, "behind '" + before + "' goes " + statement, tell(x, statement), 1);
    }

    private static void fails(String before, String statement) {
        SecondHelping x = told(before);
        List<Long> was = board(x);
        due(3, "behind '" + before + "' fails " + statement, tell(x, statement), -2000);
        alike(3, "nothing of " + statement + " comes", board(x), was);
    }

    private static void ranges() {
        for (String good : new String[] {"d00000;", "d50000;", "d09000;", "d00255;", "d59255;", "d00001;", "d00199;", "d00249;"}) {
            goes("x;", good);
        }
        for (String bad : new String[] {"d60000;", "d70000;", "d90000;", "d00256;", "d00260;", "d00300;", "d00999;"}) {
            fails("x;", bad);
        }
        for (int type = 0; type <= 9; type++) {
            for (int t = 0; t <= 9; t++) {
                String statement = "l" + type + t + ";";
                if (type <= 3 && t <= 8) {
                    goes("x;", statement);
                } else {
                    fails("x;", statement);
                }
            }
        }
        for (int there = 1; there <= 8; there++) {
            String before = "d00000;".repeat(there);
            goes(before, "o" + (there - 1) + ";");
            fails(before, "o" + there + ";");
            goes(before, "m" + (there - 1) + "0;");
            goes(before, "m" + (there - 1) + "7;");
            fails(before, "m" + (there - 1) + "8;");
            fails(before, "m" + (there - 1) + "9;");
            fails(before, "m" + there + "0;");
        }
        fails("x;", "o0;");
        fails("x;", "m00;");
        fails(EIGHT, "o9;");
        fails(EIGHT, "m97;");
    }

    private static void room() {
        due(3, "eight DOINGS", onNew(EIGHT), 8);
        due(3, "ninth DOING", onNew(EIGHT + "d00000;"), -2056);
        due(3, "ninth behind x", onNew(EIGHT + "x;d00000;"), -2058);
        due(3, "ninth of those that are there", tell(told("d00000;".repeat(7)), "d00000;d00000;"), -2007);
        goes("d00000;".repeat(7), "d00000;");
        fails(EIGHT, "d00000;");
        String one = "d00000;";
        due(3, "twelve places", onNew(one + TWELVE), 13);
        due(3, "thirteenth place", onNew(one + TWELVE + "o0;"), -2043);
        due(3, "x makes room", onNew(one + TWELVE + "x;" + TWELVE), 26);
        due(3, "x makes room for twelve", onNew(one + TWELVE + "x;" + TWELVE + "o0;"), -2081);
        goes(one + "o0;".repeat(11), "o0;");
        fails(one + TWELVE, "o0;");
        due(3, "48 STATEMENTS", onNew("x;".repeat(48)), 48);
        due(3, "96 letters lack ;", onNew("x;".repeat(47) + "l0"), -1096);
        due(3, "95 letters lack ;", onNew("x;".repeat(47) + "x"), -1095);
        due(3, "96th letter is odd", onNew("x;".repeat(47) + "xx"), -1095);
        due(3, "last STATEMENT of 96 fails", onNew("x;".repeat(46) + "l39;"), -2092);
        SecondHelping many = new SecondHelping();
        feed(many, "x;".repeat(48));
        many.feed('q');
        due(3, "97th letter did not come", many.state(), 48);
    }

    private static void allOrNothing() {
        for (String fault : new String[] {"x;l38;m00;d00000;o0;q", "x;l38;m00;d00000;o0;o9;", "x;l38;m00;d00000;o0;o"}) {
            SecondHelping x = told("d13005;d24006;o0;o1;l21;");
            x.does(0);
            x.turn(1, 3, 3);
            List<Long> was = board(x);
            due(3, "a FAULT", tell(x, fault) / 1000, fault.endsWith("9;") ? -2 : -1);
            alike(3, "nothing of " + fault + " comes", board(x), was);
            due(3, "no letters behind a FAULT", x.count(6), 0);
            due(3, "a FAULT leaves what can be TAKEN BACK", x.count(8), 2);
            dues(3, "a FAULT is not counted", refusals(x), 0, 0, 0, 0, 0, 0);
            due(3, "a whole STATE behind it", tell(x, "x;"), 1);
            due(3, "no letters behind a STATE", x.count(6), 0);
            due(3, "a STATE leaves nothing to take back", x.count(8), 0);
            due(3, "what was there goes on", x.count(0), 2);
        }
        SecondHelping y = told("d00000;");
        y.row(4);
        y.image();
        tell(y, "d00000;");
        due(3, "the ROW stays", y.count(7), 1);
        y.restore();
        due(3, "the image stays", y.count(0), 1);
    }

    // ---- 4 to 7: doings and the log ----

    private static void doings() {
        SecondHelping x = new SecondHelping();
        due(4, "no DOINGS", x.doingOf(0, 0), -1);
        due(5, "all least", x.doing(0, 0, 0), 0);
        due(5, "all greatest", x.doing(5, 9, 255), 1);
        due(5, "KIND -1", x.doing(-1, 0, 0), -2);
        due(5, "KIND 6", x.doing(6, 0, 0), -2);
        due(5, "FIGURE -1", x.doing(0, -1, 0), -4);
        due(5, "FIGURE 10", x.doing(0, 10, 0), -6);
        due(5, "MARKS -1", x.doing(0, 0, -1), -4);
        due(5, "MARKS 256", x.doing(0, 0, 256), -6);
        int[] least = {0, 0, 0};
        int[] greatest = {5, 9, 255};
        for (int what = 0; what <= 2; what++) {
            due(4, "least, what " + what, x.doingOf(0, what), least[what]);
            due(4, "greatest, what " + what, x.doingOf(1, what), greatest[what]);
        }
        due(4, "past the last", x.doingOf(2, 0), -1);
        due(4, "DOING -1", x.doingOf(-1, 0), -1);
        due(4, "what -1", x.doingOf(0, -1), -2);
        due(4, "what 3", x.doingOf(0, 3), -2);
        for (int d = 2; d <= 6; d++) {
            x.doing(3, d, d);
        }
        due(5, "eighth", x.doing(4, 8, 254), 7);
        due(5, "ninth", x.doing(4, 8, 254), -6);
        due(5, "eight there are", x.count(0), 8);
        due(4, "the eighth", x.doingOf(7, 2), 254);
        due(4, "no ninth", x.doingOf(8, 2), -1);
        due(4, "the first is as it was", x.doingOf(0, 2), 0);
    }

    /** What is DUE for one of FIGURE 0, 2 and 9, done 12 times. */
    private static void dueByKind() {
        int[][] ones = {
            {0, 1, 2, 3, 4, 5, 6, 7, 8, 9, 10, 11},
            {0, 0, 1, 1, 2, 2, 3, 3, 4, 4, 5, 5},
            {0, 2, 4, 6, 8, 10, 12, 14, 16, 18, 20, 22},
            {0, 0, 0, 0, 0, 0, 0, 0, 0, 0, 0, 0},
            {0, 0, 2, 4, 6, 8, 10, 12, 14, 16, 18, 20},
            {0, 3, 4, 4, 5, 5, 6, 6, 7, 7, 8, 8}};
        int[][] threes = {
            {0, 3, 6, 9, 12, 15, 18, 21, 24, 27, 30, 33},
            {0, 1, 3, 4, 6, 7, 9, 10, 12, 13, 15, 16},
            {0, 6, 12, 18, 24, 30, 36, 42, 48, 54, 60, 66},
            {0, 0, 0, 0, 0, 0, 0, 0, 0, 0, 0, 0},
            {0, 0, 6, 12, 18, 24, 30, 36, 42, 48, 54, 60},
            {0, 4, 6, 7, 9, 10, 12, 13, 15, 16, 18, 19}};
        int[] tens = {110, 55, 220, 0, 200, 58};
        for (int kind = 0; kind <= 5; kind++) {
            SecondHelping one = new SecondHelping();
            one.doing(kind, 0, 0);
            SecondHelping three = new SecondHelping();
            three.doing(kind, 2, 255);
            SecondHelping ten = new SecondHelping();
            ten.doing(kind, 9, 7);
            for (int r = 0; r < 12; r++) {
                due(6, "KIND " + kind + ", FIGURE 0, REPEATS " + r, one.does(0), ones[kind][r]);
                due(6, "KIND " + kind + ", FIGURE 2, REPEATS " + r, three.does(0), threes[kind][r]);
                due(6, "KIND " + kind + ", FIGURE 9, REPEATS " + r, ten.does(0), r < 11 ? ten.place(r, 2) : tens[kind]);
            }
            due(6, "thirteenth of KIND " + kind, one.does(0), -6);
        }
    }

    private static void log() {
        SecondHelping x = new SecondHelping();
        due(6, "no DOINGS", x.does(0), -1);
        due(7, "nothing to empty", x.empties(), 0);
        x.doing(0, 0, 0);
        x.doing(0, 0, 0);
        due(6, "the last", x.does(1), 0);
        due(6, "the first", x.does(0), 1);
        due(6, "past the last", x.does(2), -1);
        due(6, "-1", x.does(-1), -1);
        due(7, "two", x.empties(), 2);
        due(7, "none then", x.count(1), 0);
        due(7, "DOINGS stay", x.count(0), 2);
        for (int p = 0; p < 11; p++) {
            x.does(0);
        }
        due(6, "twelfth", x.does(1), 11);
        due(6, "thirteenth", x.does(1), -6);
        due(6, "thirteenth of no such", x.does(2), -1);
        due(7, "twelve", x.empties(), 12);
        due(7, "none again", x.empties(), 0);
        due(6, "without REPEATS again", x.does(0), 0);
    }

    // ---- 8 to 10: what can be changed ----

    private static void turns() {
        SecondHelping x = told("d00005;d59250;");
        due(8, "no such", x.turn(2, 0, 0), -1);
        due(8, "-1", x.turn(-1, 0, 0), -1);
        due(8, "KIND -1", x.turn(0, -1, 0), -2);
        due(8, "KIND 6", x.turn(0, 6, 0), -2);
        due(8, "FIGURE -1", x.turn(0, 0, -1), -4);
        due(8, "FIGURE 10", x.turn(0, 0, 10), -6);
        due(8, "it had the least", x.turn(0, 5, 9), 0);
        due(8, "it had the greatest", x.turn(0, 5, 9), 59);
        due(8, "the last had the greatest", x.turn(1, 0, 0), 59);
        due(8, "it has the least", x.turn(1, 0, 0), 0);
        due(8, "MARKS stay", x.doingOf(0, 2) + x.doingOf(1, 2), 255);
        SecondHelping y = told("d00000;o0;o0;");
        y.turn(0, 2, 4);
        due(8, "what was done is DUE by it", y.allDue(), 10);
    }

    private static void marks() {
        SecondHelping x = told("d00000;d00255;");
        for (int mark = 0; mark <= 7; mark++) {
            due(9, "it has " + mark, x.marks(0, mark), 1);
            due(9, "MARKS with " + mark, x.doingOf(0, 2), (2 << mark) - 1);
            due(9, "it has no more " + mark, x.marks(1, mark), 0);
            due(9, "MARKS without " + mark, x.doingOf(1, 2), 256 - (2 << mark));
        }
        due(9, "MARK -1", x.marks(0, -1), -1);
        due(9, "MARK 8", x.marks(0, 8), -1);
        due(9, "DOING -1", x.marks(-1, 0), -1);
        due(9, "DOING 2", x.marks(2, 0), -1);
        due(9, "neither", x.marks(2, 8), -1);
        due(9, "the first has all", x.doingOf(0, 2), 255);
    }

    private static void laws() {
        SecondHelping x = new SecondHelping();
        int before = 0;
        for (int type = 0; type <= 3; type++) {
            for (int t = 0; t <= 8; t++) {
                due(10, "TYPE " + type + " and T " + t, x.law(type, t), before);
                before = 10 * type + t;
            }
            due(10, "T 9", x.law(type, 9), -6);
            due(10, "T -1", x.law(type, -1), -4);
        }
        due(10, "TYPE 4", x.law(4, 0), -2);
        due(10, "TYPE -1", x.law(-1, 0), -2);
        due(10, "the last is THE LAW", 10 * x.count(2) + x.count(3), 38);
    }

    // ---- 11: what can be taken back ----

    private static void back() {
        SecondHelping x = told("d13005;");
        due(11, "nothing", x.back(), -3);
        List<Long> was = board(x);
        x.does(0);
        due(11, "a place", x.back(), 0);
        alike(11, "without the place", board(x), was);
        x.turn(0, 5, 9);
        due(11, "a turn", x.back(), 0);
        alike(11, "without the turn", board(x), was);
        x.marks(0, 7);
        due(11, "a MARK more", x.back(), 0);
        alike(11, "without the MARK", board(x), was);
        x.marks(0, 0);
        due(11, "a MARK less", x.back(), 0);
        alike(11, "with the MARK", board(x), was);
        x.law(3, 8);
        due(11, "a LAW", x.back(), 0);
        alike(11, "without the LAW", board(x), was);
        due(11, "nothing more", x.back(), -3);
        x.turn(0, 1, 3);
        x.law(0, 0);
        due(11, "counts though all stays", x.count(8), 2);
        x.back();
        x.back();
        alike(11, "all stayed", board(x), was);
        due(11, "no third", x.back(), -3);
    }

    private static void backEight() {
        SecondHelping x = told("d13005;");
        for (int deed = 1; deed <= 9; deed++) {
            x.law(deed % 4, deed - 1);
            due(11, "deeds behind " + deed, x.count(8), Math.min(8, deed));
        }
        for (int left = 7; left >= 0; left--) {
            due(11, "can still be", x.back(), left);
            due(11, "T then", x.count(3), left);
            due(11, "TYPE then", x.count(2), (left + 1) % 4);
        }
        due(11, "the ninth ago no more", x.back(), -3);
        for (int deed = 0; deed < 20; deed++) {
            x.marks(0, deed % 8);
        }
        due(11, "eight of twenty", x.count(8), 8);
        due(11, "MARKS of twenty", x.doingOf(0, 2), 5 ^ 255 ^ 255 ^ 15);
        for (int deed = 0; deed < 8; deed++) {
            x.back();
        }
        due(11, "MARKS of twelve", x.doingOf(0, 2), 5 ^ 255 ^ 15);
        SecondHelping full = told("d00000;");
        for (int p = 0; p < 12; p++) {
            full.does(0);
        }
        full.does(0);
        due(11, "twelve places and a refused one", full.count(8), 8);
        full.back();
        due(11, "room for one again", full.does(0), 11);
        for (int deed = 0; deed < 8; deed++) {
            full.back();
        }
        due(11, "four places stay", full.count(1), 4);
    }

    /** Each deed is taken back of its own DOING, also behind those that are no more. */
    private static void backOfEach() {
        SecondHelping x = none(8);
        for (int d = 0; d < 8; d++) {
            x.marks(d, d);
        }
        due(11, "eight MARKS", x.count(5), 8);
        for (int d = 7; d >= 0; d--) {
            due(11, "it had MARK " + d, x.doingOf(d, 2), 1 << d);
            due(11, "MARK of " + d, x.back(), d);
            due(11, "it has it no more: " + d, x.doingOf(d, 2), 0);
            due(11, "the others have theirs", x.count(5), d);
        }
        SecondHelping y = none(8);
        for (int i = 0; i < 12; i++) {
            y.turn(i % 8, 5 - i % 6, i % 10);
        }
        for (int i = 0; i < 8; i++) {
            y.back();
        }
        for (int d = 0; d < 8; d++) {
            due(11, "KIND of " + d + " behind the first four", y.doingOf(d, 0), d < 4 ? 5 - d : 0);
            due(11, "FIGURE of " + d + " behind the first four", y.doingOf(d, 1), d < 4 ? d : 0);
        }
        SecondHelping mixed = none(3);
        mixed.law(3, 8);
        mixed.does(2);
        mixed.marks(1, 7);
        mixed.turn(2, 4, 6);
        mixed.does(1);
        mixed.law(1, 1);
        mixed.marks(2, 0);
        mixed.turn(0, 1, 9);
        mixed.does(0);
        mixed.marks(0, 3);
        for (int i = 0; i < 8; i++) {
            mixed.back();
        }
        due(11, "the first LAW stays", 10 * mixed.count(2) + mixed.count(3), 38);
        due(11, "the first place stays", mixed.count(1), 1);
        due(11, "its DOING", mixed.place(0, 0), 2);
        due(11, "no MARKS", mixed.count(5), 0);
        for (int d = 0; d < 3; d++) {
            due(11, "KIND and FIGURE at first of " + d, 10 * mixed.doingOf(d, 0) + mixed.doingOf(d, 1), 0);
        }
    }

    /** So many DOINGS of KIND 0, FIGURE 0, without MARKS. */
    private static SecondHelping none(int doings) {
        return told("d00000;".repeat(doings));
    }

    private static void backNone() {
        SecondHelping x = told("d00000;");
        x.image();
        String[] names = {"doing", "empties", "empties of an empty LOG", "a STATE", "restore"};
        for (int i = 0; i < names.length; i++) {
            x.law(1, 1);
            due(11, "a deed ahead of " + names[i], x.count(8), 1);
            switch (i) {
                case 0:
                    x.doing(0, 0, 0);
                    break;
                case 1:
                    x.does(0);
                    x.empties();
                    break;
                case 2:
                    x.empties();
                    break;
                case 3:
                    tell(x, "x;");
                    break;
                default:
                    x.restore();
                    break;
            }
            due(11, names[i] + " leaves none", x.count(8), 0);
            due(11, "none behind " + names[i], x.back(), -3);
        }
        x.law(1, 1);
        x.does(0);
        x.does(1);
        x.turn(1, 0, 0);
        x.turn(0, 6, 0);
        x.turn(0, 0, 10);
        x.marks(0, 8);
        x.marks(1, 0);
        x.law(4, 0);
        x.law(0, 9);
        x.doing(6, 0, 0);
        x.doing(0, 10, 0);
        tell(x, "o1;");
        tell(x, "");
        x.image();
        x.row(1);
        x.judge();
        x.clear();
        x.feed(1);
        due(11, "what is refused, or changes nothing of them, leaves all", x.count(8), 2);
        due(11, "the place", x.back(), 1);
        due(11, "the LAW", x.back(), 0);
    }

    // ---- 52 to 54: the row ----

    private static void row() {
        SecondHelping x = told("d00000;d00000;");
        due(54, "no numbers", x.clear(), 0);
        due(52, "-1", x.row(-1), -4);
        due(52, "0", x.row(0), 1);
        due(52, "99", x.row(99), 2);
        due(52, "100", x.row(100), -6);
        for (int i = 3; i <= 11; i++) {
            x.row(i);
        }
        due(52, "twelfth", x.row(12), 12);
        due(52, "thirteenth", x.row(13), -6);
        due(52, "thirteenth -1", x.row(-1), -4);
        due(52, "thirteenth 100", x.row(100), -6);
        due(54, "twelve", x.clear(), 12);
        due(54, "none then", x.clear(), 0);
        due(52, "first again", x.row(0), 1);
        due(53, "no place 0", x.judge(), 0);
        due(53, "none then", x.count(7), 0);
        due(53, "nothing to judge", x.judge(), -9);
    }

    private static void judged() {
        SecondHelping x = told(EIGHT, "o7;o6;o5;o4;o3;o2;o1;o0;o7;o6;o5;o4;");
        int[] log = {7, 6, 5, 4, 3, 2, 1, 0, 7, 6, 5, 4};
        due(53, "all twelve", rowed(x, log).judge(), -9);
        due(53, "none behind all twelve", x.count(7), 0);
        for (int p = 0; p < 12; p++) {
            rowed(x, java.util.Arrays.copyOf(log, p));
            x.row(log[p] ^ 8);
            due(53, "not so at " + p, x.judge(), p);
            due(53, "none behind what is not so", x.count(7), 0);
        }
        due(53, "the first of two", rowed(x, 7, 0, 0).judge(), 1);
        SecondHelping three = told(EIGHT, "o7;o6;o5;");
        due(53, "fewer than places", rowed(three, 7, 6).judge(), -9);
        due(53, "as many as places", rowed(three, 7, 6, 5).judge(), -9);
        due(53, "one more than places", rowed(three, 7, 6, 5, 0).judge(), 3);
        due(53, "empty LOG", rowed(told(EIGHT), 0).judge(), 0);
        due(53, "what THE LOG had no more", emptied().judge(), 0);
    }

    private static SecondHelping emptied() {
        SecondHelping x = told(EIGHT, "o3;");
        x.empties();
        return rowed(x, 3);
    }

    // ---- 56, 57: the image ----

    private static void image() {
        SecondHelping x = new SecondHelping();
        due(57, "there is none", x.restore(), -3);
        due(56, "of nothing", x.image(), 0);
        tell(x, EIGHT);
        tell(x, "l38;" + TWELVE);
        due(57, "of nothing", x.restore(), 0);
        due(57, "no DOINGS", x.count(0), 0);
        due(57, "TYPE and T at first", x.law(0, 0), 0);
        due(57, "no DOING is left", x.does(0), -1);
        tell(x, "d59255;".repeat(8));
        tell(x, "l38;" + "o7;".repeat(12));
        List<Long> was = board(x);
        due(56, "of twelve places", x.image(), 12);
        x.empties();
        x.turn(7, 0, 0);
        x.marks(7, 7);
        x.law(0, 0);
        due(57, "of twelve places", x.restore(), 12);
        alike(57, "all of I", board(x), was);
        due(57, "leaves nothing to take back", x.back(), -3);
        x.marks(0, 0);
        due(57, "the image is not what was changed behind it", x.restore(), 12);
        alike(57, "all of I again", board(x), was);
        x.empties();
        due(56, "taken anew", x.image(), 0);
        tell(x, "o0;");
        due(57, "the later one", x.restore(), 0);
    }

    private static void imageHolds() {
        SecondHelping x = told("d00000;o0;");
        x.law(1, 1);
        x.row(5);
        feed(x, "x");
        x.next(1);
        due(56, "one place", x.image(), 1);
        due(56, "an image leaves what can be TAKEN BACK", x.count(8), 1);
        due(56, "an image leaves letters", x.count(6), 1);
        due(56, "an image leaves the ROW", x.count(7), 1);
        x.row(6);
        feed(x, ";");
        x.next(1);
        x.restore();
        due(57, "not the ROW", x.count(7), 2);
        due(57, "not the letters", x.count(6), 2);
        due(57, "not the REFUSALS", x.count(11), 2);
        due(57, "not what can be TAKEN BACK", x.count(8), 0);
        due(57, "letters go on", x.state(), 1);
        x.empties();
        due(57, "and the image stays", x.restore(), 1);
        SecondHelping none = told("d00000;");
        none.law(1, 1);
        due(57, "refused", none.restore(), -3);
        due(57, "refused, it leaves what can be TAKEN BACK", none.count(8), 1);
    }

    // ---- 58: counts ----

    private static void counts() {
        SecondHelping x = told("d59255;".repeat(8), "l38;" + "o7;".repeat(12));
        for (int deed = 0; deed < 9; deed++) {
            x.law(3, 8);
        }
        for (int i = 0; i < 13; i++) {
            x.row(99);
        }
        feed(x, "x".repeat(97));
        int[] counts = {8, 12, 3, 8, 363, 64, 96, 12, 8};
        for (int what = 0; what < counts.length; what++) {
            due(58, "all full, what " + what, x.count(what), counts[what]);
        }
        for (int what : new int[] {MIN, MIN + 10, -1, 9, 10, 17, 18, MAX}) {
            due(58, "no such what " + what, x.count(what), -9);
        }
        SecondHelping y = new SecondHelping();
        y.next(0);
        y.next(0);
        y.best(2);
        y.back();
        y.restore();
        y.back();
        y.feed(-1);
        y.feed(256);
        y.row(100);
        y.feed(257);
        y.charged(1000);
        dues(58, "each REFUSAL", refusals(y), 2, 1, 3, 1, 0, 4);
        y.songs(-1, 0);
        y.songs(9, 0);
        y.chance(0, 2);
        y.mean(2);
        dues(58, "those of longs, too", refusals(y), 2, 3, 3, 2, 0, 5);
    }

    /** An object is used for at most 512 calls: the last of them is answered as the first. */
    private static void calls() {
        SecondHelping x = new SecondHelping();
        x.doing(0, 0, 0);
        for (int call = 2; call <= 509; call++) {
            x.next(-1);
        }
        due(58, "510th call", x.does(0), 0);
        due(58, "511th call", x.allDue(), 0);
        due(58, "512th call", x.count(11), 508);
        SecondHelping y = new SecondHelping();
        y.doing(0, 0, 0);
        for (int call = 2; call <= 511; call++) {
            y.marks(0, call % 8);
        }
        due(11, "512th call", y.back(), 7);
    }

    public static void main(String[] args) {
        newObject();
        letters();
        forms();
        digits();
        kindsOfFault();
        ranges();
        room();
        allOrNothing();
        doings();
        dueByKind();
        log();
        turns();
        marks();
        laws();
        back();
        backEight();
        backOfEach();
        backNone();
        row();
        judged();
        image();
        imageHolds();
        counts();
        calls();
        end("all edges of what changes an object hold");
    }
}
