import java.util.Arrays;

/**
 * Duty on the second helping of anything: doings with marks, a law that tells
 * which of them are the same, and a log of what was done.
 *
 * <p>The words in capitals in the comments are those of the document's Terms.
 */
public final class SecondHelping {
    private static final int NONE = -9;
    private static final int ENDLESS = 2147483647;

    private static final int NOBODY = -1;
    private static final int OTHER = -2;
    private static final int STATE = -3;
    private static final int BELOW = -4;
    private static final int ROOM = -6;
    private static final long REFUSED_LONG = 4000000000000000000L;

    private static final int MOST_DOINGS = 8;
    private static final int MOST_PLACES = 12;
    private static final int MOST_LETTERS = 96;
    private static final int MOST_NUMBERS = 12;
    private static final int MOST_BACK = 8;
    private static final int MOST_FIGURE = 9;
    private static final int MOST_LETTER = 255;
    private static final int MOST_T = 8;
    private static final int MOST_TOLD = 99;
    private static final int MOST_DUE = 999;
    private static final int MOST_TIMES = 60;
    private static final int ALL_MARKS = 255;
    private static final int MARK_COUNT = 8;
    private static final int DOING_SETS = 1 << MOST_DOINGS;

    private static final int KISS = 1;
    private static final int SONG = 2;
    private static final int BREATH = 3;
    private static final int BREAD = 4;
    private static final int ECHO = 5;
    private static final int KINDS = 6;

    private static final int BY_MARKS = 0;
    private static final int BY_KIND = 1;
    private static final int BY_SHARED_MARKS = 2;
    private static final int TYPES = 4;
    private static final int LAWS = TYPES * (MOST_T + 1);

    private final Board now = new Board();
    private final Board taken = new Board();
    private boolean isTaken = false;
    private final Takebacks takebacks = new Takebacks();
    private final Letters letters = new Letters();
    private final Row numbers = new Row();
    private final Reckoning reckoning = new Reckoning(now);
    private final LogBook logBook = new LogBook(now, reckoning);
    private final Readings readings = new Readings(now, reckoning, numbers);
    private final Plans plans = new Plans(now, reckoning);
    private final Likeness likeness = new Likeness(now, reckoning);
    private final Marking marking = new Marking(now, reckoning);
    private final Luck luck = new Luck(now, reckoning);
    private final int[] refusals = new int[1 - ROOM];

    public SecondHelping() {
    }

    // ---- I: letters, doings, the law, the log ----

    public int feed(int letter) {
        if (letter < 0) {
            return refuse(BELOW);
        }
        if (letter > MOST_LETTER || letters.count >= MOST_LETTERS) {
            return refuse(ROOM);
        }
        return letters.add(letter);
    }

    public int state() {
        int told = letters.tell(now);
        if (told >= 0) {
            takebacks.forget();
        }
        return told;
    }

    public int doingOf(int doing, int what) {
        if (!now.hasDoing(doing)) {
            return refuse(NOBODY);
        }
        switch (what) {
            case 0:
                return now.kinds[doing];
            case 1:
                return now.figures[doing];
            case 2:
                return now.marks[doing];
            default:
                return refuse(OTHER);
        }
    }

    public int doing(int kind, int figure, int marks) {
        if (!isKind(kind)) {
            return refuse(OTHER);
        }
        if (figure < 0 || marks < 0) {
            return refuse(BELOW);
        }
        if (figure > MOST_FIGURE || marks > ALL_MARKS || !now.hasRoomForDoing()) {
            return refuse(ROOM);
        }
        takebacks.forget();
        return now.addDoing(kind, figure, marks);
    }

    public int does(int doing) {
        if (!now.hasDoing(doing)) {
            return refuse(NOBODY);
        }
        if (!now.hasRoomForPlace()) {
            return refuse(ROOM);
        }
        int due = reckoning.nextDue(doing);
        now.addPlace(doing);
        takebacks.keep(Takebacks.DONE, doing, 0, 0);
        return due;
    }

    public int empties() {
        int had = now.places;
        now.places = 0;
        takebacks.forget();
        return had;
    }

    public int turn(int doing, int kind, int figure) {
        if (!now.hasDoing(doing)) {
            return refuse(NOBODY);
        }
        if (!isKind(kind)) {
            return refuse(OTHER);
        }
        if (figure < 0) {
            return refuse(BELOW);
        }
        if (figure > MOST_FIGURE) {
            return refuse(ROOM);
        }
        int oldKind = now.kinds[doing];
        int oldFigure = now.figures[doing];
        now.setKind(doing, kind, figure);
        takebacks.keep(Takebacks.TURNED, doing, oldKind, oldFigure);
        return 10 * oldKind + oldFigure;
    }

    public int marks(int doing, int mark) {
        if (!now.hasDoing(doing) || !isMark(mark)) {
            return refuse(NOBODY);
        }
        now.flipMark(doing, mark);
        takebacks.keep(Takebacks.MARKED, doing, mark, 0);
        return now.marks[doing] >> mark & 1;
    }

    public int law(int type, int t) {
        if (!isType(type)) {
            return refuse(OTHER);
        }
        if (t < 0) {
            return refuse(BELOW);
        }
        if (t > MOST_T) {
            return refuse(ROOM);
        }
        int oldType = now.type;
        int oldT = now.t;
        now.setLaw(type, t);
        takebacks.keep(Takebacks.LAW_SET, 0, oldType, oldT);
        return 10 * oldType + oldT;
    }

    public int back() {
        if (takebacks.count <= 0) {
            return refuse(STATE);
        }
        return takebacks.undoLatest(now);
    }

    // ---- II: what is due, what to do next ----

    public int same(int doing, int other) {
        if (!now.hasDoing(doing) || !now.hasDoing(other)) {
            return refuse(NOBODY);
        }
        return now.areAlike(doing, other, now.type, now.t) ? 1 : 0;
    }

    public int place(int place, int what) {
        if (!now.hasPlace(place)) {
            return refuse(NOBODY);
        }
        if (what < 0 || what > 2) {
            return refuse(OTHER);
        }
        return what == 0 ? now.log[place] : logBook.ofPlace(place, what);
    }

    public int allDue() {
        return logBook.total();
    }

    public int next(int doing) {
        if (!now.hasDoing(doing)) {
            return refuse(NOBODY);
        }
        return reckoning.nextDue(doing);
    }

    public int best(int what) {
        if (!isEither(what)) {
            return refuse(OTHER);
        }
        reckoning.openBehindLog();
        return what == 0 ? reckoning.cheapestNext() : reckoning.dearestNext();
    }

    public int charged(int v) {
        if (v < 0) {
            return refuse(BELOW);
        }
        if (v > MOST_DUE) {
            return refuse(ROOM);
        }
        return logBook.firstAbove(v);
    }

    public int order(int set, int i) {
        if (set < 0 || i < -1) {
            return refuse(BELOW);
        }
        if (set >> now.doings != 0) {
            return refuse(ROOM);
        }
        if (Integer.bitCount(set) > 6) {
            return refuse(STATE);
        }
        return plans.inOrder(set, i);
    }

    public int unlike() {
        return likeness.mostApart();
    }

    public int people() {
        return likeness.fewestPeople();
    }

    public int like(int doing) {
        if (doing < -1 || doing >= now.doings) {
            return refuse(NOBODY);
        }
        return doing < 0 ? likeness.withMostLikes() : likeness.likesOf(doing);
    }

    public int reading(int what) {
        if (!isEither(what)) {
            return refuse(OTHER);
        }
        return readings.mildest(what);
    }

    public int fits(int what) {
        if (!isEither(what)) {
            return refuse(OTHER);
        }
        if (numbers.count > now.places) {
            return refuse(STATE);
        }
        return what == 0 ? readings.howManyFit() : readings.firstFitting();
    }

    public int tellsMost(int what) {
        if (!isEither(what)) {
            return refuse(OTHER);
        }
        if (numbers.count > now.places) {
            return refuse(STATE);
        }
        return readings.mostTelling(what);
    }

    public int loophole() {
        return marking.bestFlip();
    }

    public int shared(int what) {
        if (!isEither(what)) {
            return refuse(OTHER);
        }
        return logBook.splitInTwo(what);
    }

    public int saves(int place) {
        if (place < -1 || place >= now.places) {
            return refuse(NOBODY);
        }
        return place < 0 ? logBook.bestSaving() : logBook.savingOf(place);
    }

    public int turned() {
        return logBook.totalFromBehind();
    }

    public int changed() {
        return logBook.bestExchange();
    }

    public int wants(int set, int what) {
        if (set < 0) {
            return refuse(BELOW);
        }
        if (set > ALL_MARKS) {
            return refuse(ROOM);
        }
        if (what < 0 || what > 2) {
            return refuse(OTHER);
        }
        return marking.covering(set, what);
    }

    public long songs(int n, int g) {
        if (n < 0 || g < 0) {
            return refuseLong(BELOW);
        }
        if (n > 8 || g > 2) {
            return refuseLong(ROOM);
        }
        return likeness.songRows(n, g);
    }

    public int inspectors(int s) {
        if (s < 1) {
            return refuse(BELOW);
        }
        if (s > 9) {
            return refuse(ROOM);
        }
        return likeness.firstCaught(s);
    }

    public long chance(int n, int part) {
        if (n < 0) {
            return refuseLong(BELOW);
        }
        if (n > 5) {
            return refuseLong(ROOM);
        }
        if (!isEither(part)) {
            return refuseLong(OTHER);
        }
        return luck.nothingDue(n, part);
    }

    public long mean(int part) {
        if (!isEither(part)) {
            return refuseLong(OTHER);
        }
        return luck.meanNext(part);
    }

    // ---- III: heaps, stretches, limits ----

    public int twins(int what) {
        if (!isEither(what)) {
            return refuse(OTHER);
        }
        return marking.closestTwo(what);
    }

    public int chain(int doing, int other) {
        if (!now.hasDoing(doing) || !now.hasDoing(other)) {
            return refuse(NOBODY);
        }
        return likeness.shortestChain(doing, other);
    }

    public int heaps(int what) {
        if (!isEither(what)) {
            return refuse(OTHER);
        }
        return likeness.allHeaps(what);
    }

    public int pure(int what) {
        if (!isEither(what)) {
            return refuse(OTHER);
        }
        return logBook.longestPure(what);
    }

    public int bestT() {
        return readings.mildestT();
    }

    public int margin(int doing, int v) {
        if (!now.hasDoing(doing)) {
            return refuse(NOBODY);
        }
        if (v < 0) {
            return refuse(BELOW);
        }
        if (v > MOST_DUE) {
            return refuse(ROOM);
        }
        return plans.timesMore(doing, v);
    }

    public int firsts() {
        return logBook.withoutRepeats();
    }

    // ---- IV: going on, who is in the middle, what if ----

    public int greedily(int n, int what) {
        if (n < 0) {
            return refuse(BELOW);
        }
        if (n > 12) {
            return refuse(ROOM);
        }
        if (!isEither(what)) {
            return refuse(OTHER);
        }
        return plans.cheapestSteps(n, what);
    }

    public int pair(int n, int what) {
        if (n < 0) {
            return refuse(BELOW);
        }
        if (n > 6) {
            return refuse(ROOM);
        }
        if (!isEither(what)) {
            return refuse(OTHER);
        }
        return plans.cheapestTwo(n, what);
    }

    public int quota(int v) {
        if (v < 0) {
            return refuse(BELOW);
        }
        if (v > MOST_DUE) {
            return refuse(ROOM);
        }
        return plans.stepsWithin(v);
    }

    public int radius(int what) {
        if (!isEither(what)) {
            return refuse(OTHER);
        }
        return what == 0 ? marking.farthestTwo() : marking.centre();
    }

    public int majority() {
        return marking.mostlyHad();
    }

    public int byKind(int kind) {
        if (kind < -1 || kind >= KINDS) {
            return refuse(OTHER);
        }
        return kind < 0 ? logBook.dearestKind() : logBook.totalOfKind(kind);
    }

    public int banned(int what) {
        if (!isEither(what)) {
            return refuse(OTHER);
        }
        return logBook.bestBan(what);
    }

    public int moved(int place) {
        if (place < -1 || place >= now.places) {
            return refuse(NOBODY);
        }
        return place < 0 ? logBook.bestMove() : logBook.totalMoved(place);
    }

    public int unlikeMarks() {
        return marking.unlikeSets();
    }

    public int streak() {
        return logBook.longestStreak();
    }

    // ---- the row, the weeks, the image, the counts ----

    public int row(int v) {
        if (v < 0) {
            return refuse(BELOW);
        }
        if (v > MOST_TOLD || numbers.count >= MOST_NUMBERS) {
            return refuse(ROOM);
        }
        return numbers.add(v);
    }

    public int judge() {
        int wrong = numbers.firstNotIn(now);
        numbers.count = 0;
        return wrong;
    }

    public int clear() {
        int had = numbers.count;
        numbers.count = 0;
        return had;
    }

    public int lots(int n, int z, int what) {
        if (n < 1) {
            return refuse(BELOW);
        }
        if (n > 20) {
            return refuse(ROOM);
        }
        if (!isEither(what)) {
            return refuse(OTHER);
        }
        return luck.weeks(n, z, what);
    }

    public int image() {
        taken.become(now);
        isTaken = true;
        return now.places;
    }

    public int restore() {
        if (!isTaken) {
            return refuse(STATE);
        }
        now.become(taken);
        takebacks.forget();
        return now.places;
    }

    public int count(int what) {
        switch (what) {
            case 0:
                return now.doings;
            case 1:
                return now.places;
            case 2:
                return now.type;
            case 3:
                return now.t;
            case 4:
                return logBook.total();
            case 5:
                return marking.allCounted();
            case 6:
                return letters.count;
            case 7:
                return numbers.count;
            case 8:
                return takebacks.count;
            default:
                return countRefused(what - 10);
        }
    }

    // ---- refusals ----

    private int countRefused(int number) {
        return number >= 1 && number < refusals.length ? refusals[number] : NONE;
    }

    private int refuse(int number) {
        int at = -number;
        if (at >= 0 && at < refusals.length) {
            refusals[at]++;
        }
        return number;
    }

    private long refuseLong(int number) {
        return REFUSED_LONG - refuse(number);
    }

    private static boolean isEither(int what) {
        return what == 0 || what == 1;
    }

    private static boolean isKind(int kind) {
        return kind >= 0 && kind < KINDS;
    }

    private static boolean isType(int type) {
        return type >= 0 && type < TYPES;
    }

    private static boolean isMark(int mark) {
        return mark >= 0 && mark < MARK_COUNT;
    }

    /** All that there is of chapter I: DOINGS, THE LAW, THE LOG. It is what an IMAGE keeps. */
    private static final class Board {
        final int[] kinds = new int[MOST_DOINGS];
        final int[] figures = new int[MOST_DOINGS];
        final int[] marks = new int[MOST_DOINGS];
        final int[] log = new int[MOST_PLACES];
        int doings = 0;
        int places = 0;
        int type = 0;
        int t = 0;

        void become(Board other) {
            System.arraycopy(other.kinds, 0, kinds, 0, MOST_DOINGS);
            System.arraycopy(other.figures, 0, figures, 0, MOST_DOINGS);
            System.arraycopy(other.marks, 0, marks, 0, MOST_DOINGS);
            System.arraycopy(other.log, 0, log, 0, MOST_PLACES);
            doings = other.doings;
            places = other.places;
            setLaw(other.type, other.t);
        }

        boolean hasDoing(int doing) {
            return doing >= 0 && doing < doings;
        }

        boolean hasPlace(int place) {
            return place >= 0 && place < places;
        }

        boolean hasRoomForDoing() {
            return doings < MOST_DOINGS;
        }

        boolean hasRoomForPlace() {
            return places < MOST_PLACES;
        }

        int addDoing(int kind, int figure, int set) {
            if (!hasRoomForDoing()) {
                return ROOM;
            }
            int doing = doings++;
            setKind(doing, kind, figure);
            marks[doing] = set;
            return doing;
        }

        void addPlace(int doing) {
            if (hasRoomForPlace()) {
                log[places++] = doing;
            }
        }

        void setKind(int doing, int kind, int figure) {
            kinds[doing] = kind;
            figures[doing] = figure;
        }

        void setLaw(int newType, int newT) {
            type = newType;
            t = newT;
        }

        void flipMark(int doing, int mark) {
            marks[doing] ^= 1 << mark;
        }

        boolean areAlike(int doing, int other, int byType, int byT) {
            if (doing == other) {
                return true;
            }
            switch (byType) {
                case BY_MARKS:
                    return marks[doing] == marks[other];
                case BY_KIND:
                    return kinds[doing] == kinds[other];
                case BY_SHARED_MARKS:
                    return Integer.bitCount(marks[doing] & marks[other]) >= byT;
                default:
                    return Integer.bitCount(marks[doing] ^ marks[other]) <= byT;
            }
        }

        int dueFor(int doing, int repeats) {
            int plain = (figures[doing] + 1) * repeats;
            switch (kinds[doing]) {
                case KISS:
                    return plain / 2;
                case SONG:
                    return 2 * plain;
                case BREATH:
                    return 0;
                case BREAD:
                    return repeats > 0 ? 2 * (figures[doing] + 1) * (repeats - 1) : 0;
                case ECHO:
                    return repeats > 0 ? plain / 2 + 3 : 0;
                default:
                    return plain;
            }
        }
    }

    /** What can be TAKEN BACK, the latest last. */
    private static final class Takebacks {
        static final int DONE = 0;
        static final int TURNED = 1;
        static final int MARKED = 2;
        static final int LAW_SET = 3;

        private final int[] deeds = new int[MOST_BACK];
        private final int[] doings = new int[MOST_BACK];
        private final int[] firsts = new int[MOST_BACK];
        private final int[] seconds = new int[MOST_BACK];
        int count = 0;

        void forget() {
            count = 0;
        }

        void keep(int deed, int doing, int first, int second) {
            if (count >= MOST_BACK) {
                dropOldest();
            }
            deeds[count] = deed;
            doings[count] = doing;
            firsts[count] = first;
            seconds[count] = second;
            count++;
        }

        private void dropOldest() {
            count = MOST_BACK - 1;
            System.arraycopy(deeds, 1, deeds, 0, count);
            System.arraycopy(doings, 1, doings, 0, count);
            System.arraycopy(firsts, 1, firsts, 0, count);
            System.arraycopy(seconds, 1, seconds, 0, count);
        }

        int undoLatest(Board board) {
            if (count <= 0) {
                return 0;
            }
            count--;
            switch (deeds[count]) {
                case DONE:
                    // Whatever else changed THE LOG left nothing to take back,
                    // so the last place is the one that this deed added.
                    board.places = Math.max(0, board.places - 1);
                    break;
                case TURNED:
                    board.setKind(doings[count], firsts[count], seconds[count]);
                    break;
                case MARKED:
                    board.flipMark(doings[count], firsts[count]);
                    break;
                default:
                    board.setLaw(firsts[count], seconds[count]);
                    break;
            }
            return count;
        }
    }

    /** The letters of a STATE, and their reading. */
    private static final class Letters {
        private static final int LACKS_FORM = -1000;
        private static final int CANNOT_BE = -2000;

        private final int[] letters = new int[MOST_LETTERS];
        private final Board trial = new Board();
        int count = 0;

        int add(int letter) {
            if (count < MOST_LETTERS) {
                letters[count++] = letter;
            }
            return count;
        }

        int tell(Board board) {
            int told = hear(board);
            count = 0;
            return told;
        }

        private int hear(Board board) {
            int fault = firstWithoutForm();
            if (fault >= 0) {
                return LACKS_FORM - fault;
            }
            trial.become(board);
            int statements = 0;
            for (int place = 0; place < count; place++) {
                if (beginsStatement(place)) {
                    if (!comes(place)) {
                        return CANNOT_BE - place;
                    }
                    statements++;
                }
            }
            board.become(trial);
            return statements;
        }

        /** The place of the first letter with which no STATE can go on; -1 without such a one. */
        private int firstWithoutForm() {
            int place = 0;
            do {
                int digits = digitsBehind(letterAt(place));
                if (digits < 0) {
                    return place;
                }
                int end = place + 1 + digits;
                for (place++; place < end; place++) {
                    if (!isDigit(letterAt(place))) {
                        return place;
                    }
                }
                if (letterAt(place) != ';') {
                    return place;
                }
                place++;
            } while (place < count);
            return -1;
        }

        private int letterAt(int place) {
            return place >= 0 && place < count ? letters[place] : -1;
        }

        private int digitAt(int place) {
            int letter = letterAt(place);
            return isDigit(letter) ? letter - '0' : 0;
        }

        private static boolean isDigit(int letter) {
            return letter >= '0' && letter <= '9';
        }

        private static int digitsBehind(int letter) {
            switch (letter) {
                case 'd':
                    return 5;
                case 'o':
                    return 1;
                case 'l':
                case 'm':
                    return 2;
                case 'x':
                    return 0;
                default:
                    return -1;
            }
        }

        /** Asked only of letters that have the form of a STATE: there ";" ends each STATEMENT. */
        private boolean beginsStatement(int place) {
            return place == 0 || letterAt(place - 1) == ';';
        }

        private boolean comes(int start) {
            int first = digitAt(start + 1);
            int second = digitAt(start + 2);
            switch (letterAt(start)) {
                case 'd':
                    int set = 100 * digitAt(start + 3) + 10 * digitAt(start + 4) + digitAt(start + 5);
                    return comesDoing(first, second, set);
                case 'o':
                    return comesDone(first);
                case 'l':
                    return comesLaw(first, second);
                case 'm':
                    return comesMark(first, second);
                default:
                    trial.places = 0;
                    return true;
            }
        }

        private boolean comesDoing(int kind, int figure, int set) {
            if (!isKind(kind) || set > ALL_MARKS || !trial.hasRoomForDoing()) {
                return false;
            }
            trial.addDoing(kind, figure, set);
            return true;
        }

        private boolean comesDone(int doing) {
            if (!trial.hasDoing(doing) || !trial.hasRoomForPlace()) {
                return false;
            }
            trial.addPlace(doing);
            return true;
        }

        private boolean comesLaw(int type, int t) {
            if (!isType(type) || t > MOST_T) {
                return false;
            }
            trial.setLaw(type, t);
            return true;
        }

        private boolean comesMark(int doing, int mark) {
            if (!trial.hasDoing(doing) || !isMark(mark)) {
                return false;
            }
            trial.flipMark(doing, mark);
            return true;
        }
    }

    /** The ROW of numbers. */
    private static final class Row {
        final int[] numbers = new int[MOST_NUMBERS];
        int count = 0;

        int add(int v) {
            if (count < MOST_NUMBERS) {
                numbers[count++] = v;
            }
            return count;
        }

        int firstNotIn(Board board) {
            for (int i = 0; i < count; i++) {
                if (!board.hasPlace(i) || board.log[i] != numbers[i]) {
                    return i;
                }
            }
            return NONE;
        }
    }

    /**
     * A log that grows, by one law: which DOINGS are alike, and how many REPEATS
     * each DOING would have, were it done now. All that is DUE is reckoned here.
     */
    private static final class Reckoning {
        private final Board board;
        /** For each DOING the bits of all that are the SAME as it, itself among them. */
        final int[] alike = new int[MOST_DOINGS];
        final int[] repeats = new int[MOST_DOINGS];

        Reckoning(Board board) {
            this.board = board;
        }

        void open() {
            openBy(board.type, board.t);
        }

        void openBy(int type, int t) {
            for (int d = 0; d < board.doings; d++) {
                alike[d] = 1 << d;
                for (int o = 0; o < d; o++) {
                    if (board.areAlike(d, o, type, t)) {
                        alike[d] |= 1 << o;
                        alike[o] |= 1 << d;
                    }
                }
            }
            forgetSteps();
        }

        void openBehindLog() {
            open();
            walkLog();
        }

        void forgetSteps() {
            Arrays.fill(repeats, 0);
        }

        int dueNow(int doing) {
            return board.dueFor(doing, repeats[doing]);
        }

        int step(int doing) {
            int due = board.dueFor(doing, repeats[doing]);
            shift(doing, 1);
            return due;
        }

        void shift(int doing, int by) {
            int set = alike[doing];
            for (int d = 0; d < board.doings; d++) {
                if ((set >> d & 1) != 0) {
                    repeats[d] += by;
                }
            }
        }

        int walkLog() {
            int sum = 0;
            for (int p = 0; p < board.places; p++) {
                sum += step(board.log[p]);
            }
            return sum;
        }

        int totalBy(int type, int t) {
            openBy(type, t);
            return walkLog();
        }

        int total() {
            openBy(board.type, board.t);
            return walkLog();
        }

        int nextDue(int doing) {
            openBehindLog();
            return dueNow(doing);
        }

        /** The DOING by which least is DUE now; NONE without DOINGS. */
        int cheapestNext() {
            int best = NONE;
            int least = ENDLESS;
            for (int d = 0; d < board.doings; d++) {
                int due = dueNow(d);
                if (due < least) {
                    least = due;
                    best = d;
                }
            }
            return best;
        }

        int dearestNext() {
            int best = NONE;
            int most = -1;
            for (int d = 0; d < board.doings; d++) {
                int due = dueNow(d);
                if (due > most) {
                    most = due;
                    best = d;
                }
            }
            return best;
        }
    }

    /** What THE LOG tells, and what it would tell, were it another. */
    private static final class LogBook {
        private final Board board;
        private final Reckoning reckoning;
        private final int[] repeats = new int[MOST_PLACES];
        private final int[] dues = new int[MOST_PLACES];
        private final int[] alikeAhead = new int[MOST_PLACES];

        LogBook(Board board, Reckoning reckoning) {
            this.board = board;
            this.reckoning = reckoning;
        }

        private void reckonPlaces() {
            reckoning.open();
            for (int p = 0; p < board.places; p++) {
                int doing = board.log[p];
                repeats[p] = reckoning.repeats[doing];
                dues[p] = reckoning.step(doing);
            }
        }

        int total() {
            return reckoning.total();
        }

        int ofPlace(int place, int what) {
            reckonPlaces();
            return what == 1 ? repeats[place] : dues[place];
        }

        int firstAbove(int v) {
            reckonPlaces();
            for (int p = 0; p < board.places; p++) {
                if (dues[p] > v) {
                    return p;
                }
            }
            return NONE;
        }

        int withoutRepeats() {
            reckonPlaces();
            int set = 0;
            for (int p = 0; p < board.places; p++) {
                if (repeats[p] == 0) {
                    set |= 1 << p;
                }
            }
            return set;
        }

        int totalOfKind(int kind) {
            reckonPlaces();
            return sumOfKind(kind);
        }

        private int sumOfKind(int kind) {
            int sum = 0;
            for (int p = 0; p < board.places; p++) {
                if (board.kinds[board.log[p]] == kind) {
                    sum += dues[p];
                }
            }
            return sum;
        }

        int dearestKind() {
            if (board.places == 0) {
                return NONE;
            }
            reckonPlaces();
            int best = 0;
            int most = -1;
            for (int kind = 0; kind < KINDS; kind++) {
                int sum = sumOfKind(kind);
                if (sum > most) {
                    most = sum;
                    best = kind;
                }
            }
            return best;
        }

        private int sumWithout(int place) {
            reckoning.forgetSteps();
            int sum = 0;
            for (int p = 0; p < board.places; p++) {
                if (p != place) {
                    sum += reckoning.step(board.log[p]);
                }
            }
            return sum;
        }

        int savingOf(int place) {
            return reckoning.total() - sumWithout(place);
        }

        int bestSaving() {
            reckoning.open();
            int best = NONE;
            int least = ENDLESS;
            for (int p = 0; p < board.places; p++) {
                int sum = sumWithout(p);
                if (sum < least) {
                    least = sum;
                    best = p;
                }
            }
            return best;
        }

        int totalMoved(int place) {
            reckoning.open();
            return sumMoved(place);
        }

        private int sumMoved(int place) {
            int sum = sumWithout(place);
            return sum + reckoning.step(board.log[place]);
        }

        int bestMove() {
            int best = NONE;
            int least = reckoning.total();
            for (int p = 0; p < board.places; p++) {
                int sum = sumMoved(p);
                if (sum < least) {
                    least = sum;
                    best = p;
                }
            }
            return best;
        }

        int totalFromBehind() {
            reckoning.open();
            int sum = 0;
            for (int p = board.places - 1; p >= 0; p--) {
                sum += reckoning.step(board.log[p]);
            }
            return sum;
        }

        int bestExchange() {
            int best = NONE;
            int least = reckoning.total();
            for (int p = 0; p < board.places; p++) {
                for (int q = p + 1; q < board.places; q++) {
                    int sum = sumExchanged(p, q);
                    if (sum < least) {
                        least = sum;
                        best = 100 * p + q;
                    }
                }
            }
            return best;
        }

        private int sumExchanged(int one, int two) {
            reckoning.forgetSteps();
            int sum = 0;
            for (int p = 0; p < board.places; p++) {
                int from = p == one ? two : p == two ? one : p;
                sum += reckoning.step(board.log[from]);
            }
            return sum;
        }

        int bestBan(int what) {
            reckoning.open();
            int best = NONE;
            int least = ENDLESS;
            for (int d = 0; d < board.doings; d++) {
                int sum = isInLog(d) ? sumBanning(d) : ENDLESS;
                if (sum < least) {
                    least = sum;
                    best = d;
                }
            }
            return what == 0 || best == NONE ? best : least;
        }

        private boolean isInLog(int doing) {
            for (int p = 0; p < board.places; p++) {
                if (board.log[p] == doing) {
                    return true;
                }
            }
            return false;
        }

        private int sumBanning(int doing) {
            reckoning.forgetSteps();
            int sum = 0;
            for (int p = 0; p < board.places; p++) {
                if (board.log[p] != doing) {
                    sum += reckoning.step(board.log[p]);
                }
            }
            return sum;
        }

        int splitInTwo(int what) {
            readAhead();
            int best = 0;
            int least = reckoning.walkLog();
            // The two can change parts: a split that gives the second the last
            // place has a lesser like of it that does not, so those are left out.
            for (int second = 1; second < 1 << Math.max(0, board.places - 1); second++) {
                int sum = sumSplit(second, least);
                if (sum < least) {
                    least = sum;
                    best = second;
                }
            }
            return what == 0 ? least : best;
        }

        private void readAhead() {
            reckoning.open();
            for (int p = 0; p < board.places; p++) {
                alikeAhead[p] = 0;
                for (int q = 0; q < p; q++) {
                    if (areAlikePlaces(q, p)) {
                        alikeAhead[p] |= 1 << q;
                    }
                }
            }
        }

        private int sumSplit(int second, int enough) {
            int sum = 0;
            for (int p = 0; p < board.places && sum < enough; p++) {
                int own = (second >> p & 1) != 0 ? second : ~second;
                sum += board.dueFor(board.log[p], Integer.bitCount(alikeAhead[p] & own));
            }
            return sum;
        }

        private boolean areAlikePlaces(int p, int q) {
            return (reckoning.alike[board.log[p]] >> board.log[q] & 1) != 0;
        }

        int longestPure(int what) {
            reckoning.open();
            int longest = 0;
            int first = NONE;
            for (int p = 0; p < board.places; p++) {
                int length = pureFrom(p);
                if (length > longest) {
                    longest = length;
                    first = p;
                }
            }
            return what == 0 ? longest : first;
        }

        private int pureFrom(int start) {
            for (int p = start; p < board.places; p++) {
                for (int q = start; q < p; q++) {
                    if (areAlikePlaces(q, p)) {
                        return p - start;
                    }
                }
            }
            return board.places - start;
        }

        int longestStreak() {
            reckoning.open();
            int longest = 0;
            int length = 0;
            for (int p = 0; p < board.places; p++) {
                boolean goesOn = p > 0 && areAlikePlaces(p - 1, p);
                length = goesOn ? length + 1 : 1;
                longest = Math.max(longest, length);
            }
            return longest;
        }
    }

    /** LAWS held against THE LOG and the ROW. */
    private static final class Readings {
        private final Board board;
        private final Reckoning reckoning;
        private final Row row;
        /** NEXT of each DOING by each LAW that fits, MOST_DOINGS numbers a LAW. */
        private final int[] nexts = new int[LAWS * MOST_DOINGS];

        Readings(Board board, Reckoning reckoning, Row row) {
            this.board = board;
            this.reckoning = reckoning;
            this.row = row;
        }

        int mildest(int what) {
            int best = 0;
            int least = ENDLESS;
            for (int type = 0; type < TYPES; type++) {
                for (int t = 0; t <= MOST_T; t++) {
                    int sum = reckoning.totalBy(type, t);
                    if (sum < least) {
                        least = sum;
                        best = 10 * type + t;
                    }
                }
            }
            return what == 0 ? best : least;
        }

        int mildestT() {
            int best = 0;
            int least = ENDLESS;
            for (int t = 0; t <= MOST_T; t++) {
                int sum = reckoning.totalBy(board.type, t);
                if (sum < least) {
                    least = sum;
                    best = t;
                }
            }
            return best;
        }

        private boolean isAsTold(int type, int t) {
            reckoning.openBy(type, t);
            for (int i = 0; i < row.count && i < board.places; i++) {
                if (Math.min(reckoning.step(board.log[i]), MOST_TOLD) != row.numbers[i]) {
                    return false;
                }
            }
            return true;
        }

        int howManyFit() {
            int fitting = 0;
            for (int type = 0; type < TYPES; type++) {
                for (int t = 0; t <= MOST_T; t++) {
                    if (isAsTold(type, t)) {
                        fitting++;
                    }
                }
            }
            return fitting;
        }

        int firstFitting() {
            for (int type = 0; type < TYPES; type++) {
                for (int t = 0; t <= MOST_T; t++) {
                    if (isAsTold(type, t)) {
                        return 10 * type + t;
                    }
                }
            }
            return NONE;
        }

        int mostTelling(int what) {
            int fitting = gatherNexts();
            int best = NONE;
            int most = 0;
            for (int d = 0; d < board.doings; d++) {
                int parts = unlikeNexts(d, fitting);
                if (parts > most) {
                    most = parts;
                    best = d;
                }
            }
            return what == 0 || best == NONE ? best : most;
        }

        private int gatherNexts() {
            int fitting = 0;
            for (int type = 0; type < TYPES; type++) {
                for (int t = 0; t <= MOST_T; t++) {
                    if (isAsTold(type, t)) {
                        reckoning.totalBy(type, t);
                        keepNexts(fitting);
                        fitting++;
                    }
                }
            }
            return fitting;
        }

        private void keepNexts(int place) {
            for (int d = 0; d < board.doings; d++) {
                nexts[place * MOST_DOINGS + d] = reckoning.dueNow(d);
            }
        }

        private int unlikeNexts(int doing, int fitting) {
            int unlike = 0;
            for (int i = 0; i < fitting; i++) {
                if (isNewNext(doing, i)) {
                    unlike++;
                }
            }
            return unlike;
        }

        private boolean isNewNext(int doing, int i) {
            for (int j = 0; j < i; j++) {
                if (nexts[j * MOST_DOINGS + doing] == nexts[i * MOST_DOINGS + doing]) {
                    return false;
                }
            }
            return true;
        }
    }

    /** What to do from now on. */
    private static final class Plans {
        private final Board board;
        private final Reckoning reckoning;
        /** For each part of a set that is done already: the least that the others still cost. */
        private final int[] rest = new int[DOING_SETS];

        Plans(Board board, Reckoning reckoning) {
            this.board = board;
            this.reckoning = reckoning;
        }

        int inOrder(int set, int i) {
            reckoning.openBehindLog();
            reckonRests(set);
            return i < 0 ? rest[0] : ithDone(set, i);
        }

        private void reckonRests(int set) {
            rest[set] = 0;
            for (int done = set - 1; done >= 0; done--) {
                if ((done & ~set) == 0) {
                    rest[done] = leastRest(set, done);
                }
            }
        }

        private int leastRest(int set, int done) {
            int least = ENDLESS;
            for (int d = 0; d < board.doings; d++) {
                if (((set & ~done) >> d & 1) != 0) {
                    least = Math.min(least, dueBehind(d, done) + rest[done | 1 << d]);
                }
            }
            return least;
        }

        private int dueBehind(int doing, int done) {
            int more = Integer.bitCount(reckoning.alike[doing] & done);
            return board.dueFor(doing, reckoning.repeats[doing] + more);
        }

        private int ithDone(int set, int i) {
            int done = 0;
            for (int k = 0; k < board.doings; k++) {
                int doing = firstOnBestWay(set, done);
                if (doing < 0 || k == i) {
                    return doing;
                }
                done |= 1 << doing;
            }
            return NONE;
        }

        private int firstOnBestWay(int set, int done) {
            for (int d = 0; d < board.doings; d++) {
                if (((set & ~done) >> d & 1) != 0
                        && dueBehind(d, done) + rest[done | 1 << d] == rest[done]) {
                    return d;
                }
            }
            return NONE;
        }

        int timesMore(int doing, int v) {
            reckoning.openBehindLog();
            int sum = 0;
            for (int times = 0; times < MOST_TIMES; times++) {
                sum += reckoning.step(doing);
                if (sum > v) {
                    return times;
                }
            }
            return MOST_TIMES;
        }

        int cheapestSteps(int n, int what) {
            reckoning.openBehindLog();
            int sum = 0;
            int last = NONE;
            for (int i = 0; i < n && board.doings > 0; i++) {
                last = reckoning.cheapestNext();
                sum += reckoning.step(last);
            }
            return what == 0 ? sum : last;
        }

        int stepsWithin(int v) {
            reckoning.openBehindLog();
            int sum = 0;
            for (int times = 0; times < MOST_TIMES && board.doings > 0; times++) {
                sum += reckoning.step(reckoning.cheapestNext());
                if (sum > v) {
                    return times;
                }
            }
            return MOST_TIMES;
        }

        int cheapestTwo(int n, int what) {
            reckoning.open();
            int best = NONE;
            int least = ENDLESS;
            for (int a = 0; a < board.doings; a++) {
                for (int b = a + 1; b < board.doings; b++) {
                    int sum = totalByTurns(a, b, n);
                    if (sum < least) {
                        least = sum;
                        best = 10 * a + b;
                    }
                }
            }
            return what == 0 || best == NONE ? best : least;
        }

        private int totalByTurns(int a, int b, int n) {
            reckoning.forgetSteps();
            int sum = 0;
            for (int i = 0; i < n; i++) {
                sum += reckoning.step(a);
                sum += reckoning.step(b);
            }
            return sum;
        }
    }

    /** DOINGS as a net: two are tied where they are the SAME. */
    private static final class Likeness {
        private static final int NOBODY_YET = MOST_DOINGS;
        private static final int ENDS = MOST_DOINGS + 1;

        private final Board board;
        private final Reckoning reckoning;
        private final int[] needed = new int[DOING_SETS];
        private final boolean[] apart = new boolean[DOING_SETS];
        /** How many rows end with two DOINGS: the last but one times ENDS, and the last. */
        private final long[] rows = new long[ENDS * ENDS];
        private final long[] longer = new long[ENDS * ENDS];

        Likeness(Board board, Reckoning reckoning) {
            this.board = board;
            this.reckoning = reckoning;
        }

        private int sets() {
            return 1 << board.doings;
        }

        private boolean areApart(int set) {
            for (int d = 0; d < board.doings; d++) {
                if ((set >> d & 1) != 0 && (reckoning.alike[d] & set) != 1 << d) {
                    return false;
                }
            }
            return true;
        }

        int mostApart() {
            reckoning.open();
            int best = 0;
            for (int set = 1; set < sets(); set++) {
                if (Integer.bitCount(set) > Integer.bitCount(best) && areApart(set)) {
                    best = set;
                }
            }
            return best;
        }

        int fewestPeople() {
            reckoning.open();
            needed[0] = 0;
            for (int set = 1; set < sets(); set++) {
                apart[set] = areApart(set);
                needed[set] = fewestFor(set);
            }
            return needed[sets() - 1];
        }

        private int fewestFor(int set) {
            int fewest = MOST_DOINGS;
            for (int part = set; part > 0; part = part - 1 & set) {
                if (apart[part]) {
                    fewest = Math.min(fewest, needed[set & ~part] + 1);
                }
            }
            return fewest;
        }

        int likesOf(int doing) {
            reckoning.open();
            return tiesOf(doing);
        }

        private int tiesOf(int doing) {
            return Integer.bitCount(reckoning.alike[doing]) - 1;
        }

        int withMostLikes() {
            reckoning.open();
            int best = NONE;
            int most = -1;
            for (int d = 0; d < board.doings; d++) {
                int ties = tiesOf(d);
                if (ties > most) {
                    most = ties;
                    best = d;
                }
            }
            return best;
        }

        private int spread(int set) {
            int wider = set;
            for (int d = 0; d < board.doings; d++) {
                if ((set >> d & 1) != 0) {
                    wider |= reckoning.alike[d];
                }
            }
            return wider;
        }

        int shortestChain(int doing, int other) {
            reckoning.open();
            int reached = 1 << doing;
            for (int length = 1; length <= board.doings; length++) {
                if ((reached >> other & 1) != 0) {
                    return length;
                }
                reached = spread(reached);
            }
            return NONE;
        }

        int allHeaps(int what) {
            reckoning.open();
            int heapCount = 0;
            int biggest = 0;
            int seen = 0;
            for (int d = 0; d < board.doings; d++) {
                if ((seen >> d & 1) == 0) {
                    int heap = heapOf(d);
                    seen |= heap;
                    heapCount++;
                    biggest = Math.max(biggest, Integer.bitCount(heap));
                }
            }
            return what == 0 ? heapCount : biggest;
        }

        private int heapOf(int doing) {
            int heap = 1 << doing;
            for (int i = 0; i < board.doings; i++) {
                heap = spread(heap);
            }
            return heap;
        }

        long songRows(int n, int g) {
            reckoning.open();
            Arrays.fill(rows, 0L);
            rows[NOBODY_YET * ENDS + NOBODY_YET] = 1;
            for (int i = 0; i < n; i++) {
                lengthen(g);
            }
            long sum = 0;
            for (int i = 0; i < rows.length; i++) {
                sum += rows[i];
            }
            return sum;
        }

        private void lengthen(int g) {
            Arrays.fill(longer, 0L);
            for (int before = 0; before < ENDS; before++) {
                for (int last = 0; last < ENDS; last++) {
                    long ways = rows[before * ENDS + last];
                    for (int d = 0; d < board.doings && ways > 0; d++) {
                        if ((g < 1 || mayFollow(d, last)) && (g < 2 || mayFollow(d, before))) {
                            longer[last * ENDS + d] += ways;
                        }
                    }
                }
            }
            System.arraycopy(longer, 0, rows, 0, ENDS * ENDS);
        }

        private boolean mayFollow(int doing, int ahead) {
            return ahead == NOBODY_YET || (reckoning.alike[doing] >> ahead & 1) == 0;
        }

        int firstCaught(int s) {
            reckoning.open();
            int come = 0;
            int doing = 0;
            // Behind as many times as there are DOINGS one of them comes again.
            for (int time = 1; time <= board.doings + 1 && board.doings > 0; time++) {
                if ((reckoning.alike[doing] & come) != 0) {
                    return time;
                }
                come |= 1 << doing;
                doing = (doing + s) % board.doings;
            }
            return NONE;
        }
    }

    /** Which DOINGS have which MARKS. */
    private static final class Marking {
        private final Board board;
        private final Reckoning reckoning;

        Marking(Board board, Reckoning reckoning) {
            this.board = board;
            this.reckoning = reckoning;
        }

        int allCounted() {
            int sum = 0;
            for (int d = 0; d < board.doings; d++) {
                sum += Integer.bitCount(board.marks[d]);
            }
            return sum;
        }

        int bestFlip() {
            int best = NONE;
            int least = reckoning.total();
            for (int d = 0; d < board.doings; d++) {
                for (int mark = 0; mark < MARK_COUNT; mark++) {
                    int sum = totalFlipped(d, mark);
                    if (sum < least) {
                        least = sum;
                        best = 10 * d + mark;
                    }
                }
            }
            return best;
        }

        private int totalFlipped(int doing, int mark) {
            board.flipMark(doing, mark);
            int sum = reckoning.total();
            board.flipMark(doing, mark);
            return sum;
        }

        int covering(int wanted, int what) {
            reckoning.openBehindLog();
            int fewest = NONE;
            int cheapest = NONE;
            int size = MOST_DOINGS + 1;
            int least = ENDLESS;
            for (int set = 0; set < 1 << board.doings; set++) {
                if ((wanted & ~marksOf(set)) == 0) {
                    int cost = nextOf(set);
                    if (Integer.bitCount(set) < size) {
                        size = Integer.bitCount(set);
                        fewest = set;
                    }
                    if (cost < least) {
                        least = cost;
                        cheapest = set;
                    }
                }
            }
            if (what == 0) {
                return fewest;
            }
            return what == 1 || cheapest == NONE ? cheapest : least;
        }

        private int marksOf(int set) {
            int all = 0;
            for (int d = 0; d < board.doings; d++) {
                if ((set >> d & 1) != 0) {
                    all |= board.marks[d];
                }
            }
            return all;
        }

        private int nextOf(int set) {
            int sum = 0;
            for (int d = 0; d < board.doings; d++) {
                if ((set >> d & 1) != 0) {
                    sum += reckoning.dueNow(d);
                }
            }
            return sum;
        }

        int closestTwo(int what) {
            int best = NONE;
            int most = -1;
            for (int a = 0; a < board.doings; a++) {
                for (int b = a + 1; b < board.doings; b++) {
                    int both = Integer.bitCount(board.marks[a] & board.marks[b]);
                    if (both > most) {
                        most = both;
                        best = 10 * a + b;
                    }
                }
            }
            return what == 0 || best == NONE ? best : most;
        }

        private int distance(int doing, int other) {
            return Integer.bitCount(board.marks[doing] ^ board.marks[other]);
        }

        int farthestTwo() {
            int most = 0;
            for (int a = 0; a < board.doings; a++) {
                for (int b = a + 1; b < board.doings; b++) {
                    most = Math.max(most, distance(a, b));
                }
            }
            return most;
        }

        int centre() {
            int best = NONE;
            int least = ENDLESS;
            for (int d = 0; d < board.doings; d++) {
                int sum = distancesFrom(d);
                if (sum < least) {
                    least = sum;
                    best = d;
                }
            }
            return best;
        }

        private int distancesFrom(int doing) {
            int sum = 0;
            for (int o = 0; o < board.doings; o++) {
                sum += distance(doing, o);
            }
            return sum;
        }

        int mostlyHad() {
            int set = 0;
            for (int mark = 0; mark < MARK_COUNT; mark++) {
                int having = 0;
                for (int d = 0; d < board.doings; d++) {
                    having += board.marks[d] >> mark & 1;
                }
                if (2 * having > board.doings) {
                    set |= 1 << mark;
                }
            }
            return set;
        }

        int unlikeSets() {
            int unlike = 0;
            for (int d = 0; d < board.doings; d++) {
                if (isNewSet(d)) {
                    unlike++;
                }
            }
            return unlike;
        }

        private boolean isNewSet(int doing) {
            for (int o = 0; o < doing; o++) {
                if (board.marks[o] == board.marks[doing]) {
                    return false;
                }
            }
            return true;
        }
    }

    /** Drawn DOINGS, and what is to be looked for in the mean. */
    private static final class Luck {
        private static final int DRAWS_A_WEEK = 12;
        private static final int WITHOUT_SIGN = 0x7fffffff;

        private final Board board;
        private final Reckoning reckoning;

        Luck(Board board, Reckoning reckoning) {
            this.board = board;
            this.reckoning = reckoning;
        }

        long nothingDue(int n, int part) {
            reckoning.open();
            long all = 1;
            for (int i = 0; i < n; i++) {
                all *= board.doings;
            }
            return lowest(luckyRows(board, reckoning, n), all, part);
        }

        /** How many rows of so many DOINGS more there are by which nothing is DUE. */
        private static int luckyRows(Board board, Reckoning reckoning, int left) {
            if (left <= 0) {
                return 1;
            }
            int ways = 0;
            for (int d = 0; d < board.doings; d++) {
                if (reckoning.dueNow(d) == 0) {
                    // The last one drawn troubles nobody behind it.
                    if (left == 1) {
                        ways++;
                    } else {
                        reckoning.shift(d, 1);
                        ways += luckyRows(board, reckoning, left - 1);
                        reckoning.shift(d, -1);
                    }
                }
            }
            return ways;
        }

        long meanNext(int part) {
            reckoning.openBehindLog();
            long sum = 0;
            for (int d = 0; d < board.doings; d++) {
                sum += reckoning.dueNow(d);
            }
            return lowest(sum, board.doings, part);
        }

        /** A part of a fraction in lowest terms; 0 over 1 if nothing is above or below the line. */
        private static long lowest(long above, long below, int part) {
            if (above == 0 || below == 0) {
                return part;
            }
            long a = above;
            long b = below;
            for (int i = 0; i < 64 && b != 0; i++) {
                long left = a % b;
                a = b;
                b = left;
            }
            return (part == 0 ? above : below) / Math.max(1L, a);
        }

        int weeks(int n, int z, int what) {
            reckoning.open();
            int seed = z;
            int sum = 0;
            int free = 0;
            for (int week = 0; week < n && board.doings > 0; week++) {
                reckoning.forgetSteps();
                int due = 0;
                for (int i = 0; i < DRAWS_A_WEEK; i++) {
                    seed = seed * 1103515245 + 12345;
                    due += reckoning.step((seed & WITHOUT_SIGN) / 65536 % board.doings);
                }
                sum += due;
                free += due == 0 ? 1 : 0;
            }
            return what == 0 ? sum : free;
        }
    }
}
