import java.util.ArrayList;
import java.util.HashSet;
import java.util.List;
import java.util.Set;
import java.util.regex.Matcher;
import java.util.regex.Pattern;

/**
 * The document once more, told as slowly and as plainly as can be: whole
 * worlds are copied, all rows, sets and orders are tried one by one.
 */
final class PlainModel {
    private static final Pattern STATE =
            Pattern.compile("(d[0-9]{5};|o[0-9];|l[0-9]{2};|m[0-9]{2};|x;)+");
    private static final long LONG = 4000000000000000000L;

    private static final class World {
        final List<int[]> doings = new ArrayList<>();
        final List<Integer> log = new ArrayList<>();
        int type = 0;
        int t = 0;

        World copy() {
            World w = new World();
            for (int[] d : doings) {
                w.doings.add(d.clone());
            }
            w.log.addAll(log);
            w.type = type;
            w.t = t;
            return w;
        }

        World by(int newType, int newT) {
            World w = copy();
            w.type = newType;
            w.t = newT;
            return w;
        }

        World logged(List<Integer> newLog) {
            World w = copy();
            w.log.clear();
            w.log.addAll(newLog);
            return w;
        }

        World and(int doing) {
            World w = copy();
            w.log.add(doing);
            return w;
        }

        int size() {
            return doings.size();
        }

        boolean same(int a, int b) {
            if (a == b) {
                return true;
            }
            int ma = doings.get(a)[2];
            int mb = doings.get(b)[2];
            int both = 0;
            int one = 0;
            for (int bit = 1; bit < 256; bit *= 2) {
                boolean has = (ma & bit) != 0;
                boolean had = (mb & bit) != 0;
                both += has && had ? 1 : 0;
                one += has != had ? 1 : 0;
            }
            if (type == 0) {
                return ma == mb;
            }
            if (type == 1) {
                return doings.get(a)[0] == doings.get(b)[0];
            }
            return type == 2 ? both >= t : one <= t;
        }

        int repeats(int place) {
            int r = 0;
            for (int p = 0; p < place; p++) {
                r += same(log.get(p), log.get(place)) ? 1 : 0;
            }
            return r;
        }

        int due(int place) {
            int[] d = doings.get(log.get(place));
            return dueOf(d[0], d[1], repeats(place));
        }

        int all() {
            int sum = 0;
            for (int p = 0; p < log.size(); p++) {
                sum += due(p);
            }
            return sum;
        }

        int next(int doing) {
            return and(doing).due(log.size());
        }
    }

    static int dueOf(int kind, int figure, int r) {
        switch (kind) {
            case 0: return (figure + 1) * r;
            case 1: return dueOf(0, figure, r) / 2;
            case 2: return dueOf(0, figure, r) * 2;
            case 3: return 0;
            case 4: return r == 0 ? 0 : dueOf(2, figure, r - 1);
            default: return dueOf(1, figure, r) + (r > 0 ? 3 : 0);
        }
    }

    private World w = new World();
    private World image = null;
    private final List<World> past = new ArrayList<>();
    private final StringBuilder letters = new StringBuilder();
    private final List<Integer> row = new ArrayList<>();
    private final int[] refused = new int[7];

    /** The answer that is due to a call; refusals are counted. */
    long call(String name, int... a) {
        Long wrong = refusal(name, a);
        if (wrong == null) {
            return answer(name, a);
        }
        refused[(int) -wrong]++;
        boolean isLong = Set.of("songs", "chance", "mean").contains(name);
        return isLong ? LONG - wrong : wrong;
    }

    /** What is DUE for a place, without a call; -1 without the place. */
    int dueAt(int place) {
        return noPlace(place) ? -1 : w.due(place);
    }

    /** The DOING of a place, without a call; -1 without the place. */
    int doingAt(int place) {
        return noPlace(place) ? -1 : w.log.get(place);
    }

    private boolean no(int doing) {
        return doing < 0 || doing >= w.size();
    }

    private boolean noPlace(int place) {
        return place < 0 || place >= w.log.size();
    }

    private static Long within(int v, int least, int most) {
        return v < least ? Long.valueOf(-4) : v > most ? Long.valueOf(-6) : null;
    }

    private static Long part(int what) {
        return what == 0 || what == 1 ? null : Long.valueOf(-2);
    }

    private static Long first(Long... all) {
        for (Long one : all) {
            if (one != null) {
                return one;
            }
        }
        return null;
    }

    private static Long if_(boolean wrong, long number) {
        return wrong ? Long.valueOf(number) : null;
    }

    private Long refusal(String name, int[] a) {
        switch (name) {
            case "feed": return first(within(a[0], 0, 255), if_(letters.length() == 96, -6));
            case "doingOf": return first(if_(no(a[0]), -1), if_(a[1] < 0 || a[1] > 2, -2));
            case "doing": return first(if_(a[0] < 0 || a[0] > 5, -2), if_(a[1] < 0, -4), if_(a[2] < 0, -4),
                    if_(a[1] > 9, -6), if_(a[2] > 255, -6), if_(w.size() == 8, -6));
            case "does": return first(if_(no(a[0]), -1), if_(w.log.size() == 12, -6));
            case "turn": return first(if_(no(a[0]), -1), if_(a[1] < 0 || a[1] > 5, -2), within(a[2], 0, 9));
            case "marks": return if_(no(a[0]) || a[1] < 0 || a[1] > 7, -1);
            case "law": return first(if_(a[0] < 0 || a[0] > 3, -2), within(a[1], 0, 8));
            case "back": return if_(past.isEmpty(), -3);
            case "same": case "chain": return if_(no(a[0]) || no(a[1]), -1);
            case "place": return first(if_(noPlace(a[0]), -1), if_(a[1] < 0 || a[1] > 2, -2));
            case "next": return if_(no(a[0]), -1);
            case "best": case "reading": case "shared": case "mean": case "twins": case "heaps": case "pure":
            case "radius": case "banned": return part(a[0]);
            case "charged": case "quota": return within(a[0], 0, 999);
            case "order": return first(if_(a[0] < 0 || a[1] < -1, -4), if_(a[0] >= 1 << w.size(), -6),
                    if_(a[0] >= 0 && members(a[0]).size() > 6, -3));
            case "like": return if_(a[0] != -1 && no(a[0]), -1);
            case "fits": case "tellsMost": return first(part(a[0]), if_(row.size() > w.log.size(), -3));
            case "saves": case "moved": return if_(a[0] != -1 && noPlace(a[0]), -1);
            case "wants": return first(within(a[0], 0, 255), if_(a[1] < 0 || a[1] > 2, -2));
            case "songs": return first(if_(a[0] < 0 || a[1] < 0, -4), if_(a[0] > 8 || a[1] > 2, -6));
            case "inspectors": return within(a[0], 1, 9);
            case "chance": return first(within(a[0], 0, 5), part(a[1]));
            case "margin": return first(if_(no(a[0]), -1), within(a[1], 0, 999));
            case "greedily": return first(within(a[0], 0, 12), part(a[1]));
            case "pair": return first(within(a[0], 0, 6), part(a[1]));
            case "byKind": return if_(a[0] < -1 || a[0] > 5, -2);
            case "row": return first(within(a[0], 0, 99), if_(row.size() == 12, -6));
            case "lots": return first(within(a[0], 1, 20), part(a[2]));
            case "restore": return if_(image == null, -3);
            default: return null;
        }
    }

    private void keepPast() {
        past.add(w.copy());
        if (past.size() > 8) {
            past.remove(0);
        }
    }

    private long answer(String name, int[] a) {
        switch (name) {
            case "feed": letters.append((char) a[0]); return letters.length();
            case "state": return state();
            case "doingOf": return w.doings.get(a[0])[a[1]];
            case "doing": past.clear(); w.doings.add(a.clone()); return w.size() - 1;
            case "does": keepPast(); w.log.add(a[0]); return w.due(w.log.size() - 1);
            case "empties": past.clear(); int had = w.log.size(); w.log.clear(); return had;
            case "turn": return turn(a);
            case "marks": keepPast(); w.doings.get(a[0])[2] ^= 1 << a[1]; return w.doings.get(a[0])[2] >> a[1] & 1;
            case "law": keepPast(); int old = 10 * w.type + w.t; w.type = a[0]; w.t = a[1]; return old;
            case "back": w = past.remove(past.size() - 1); return past.size();
            case "same": return w.same(a[0], a[1]) ? 1 : 0;
            case "place": return a[1] == 0 ? w.log.get(a[0]) : a[1] == 1 ? w.repeats(a[0]) : w.due(a[0]);
            case "allDue": return w.all();
            case "next": return w.next(a[0]);
            case "best": return best(a[0] == 0 ? 1 : -1);
            case "charged": return charged(a[0]);
            case "order": return order(a[0], a[1]);
            case "unlike": return unlike();
            case "people": return people();
            case "like": return a[0] < 0 ? mostLiked() : likes(a[0]);
            case "reading": return reading(0, 3, a[0]);
            case "bestT": return reading(w.type, w.type, 0) % 10;
            case "fits": return fitting().isEmpty() ? (a[0] == 0 ? 0 : -9)
                    : a[0] == 0 ? fitting().size() : code(fitting().get(0));
            case "tellsMost": return tellsMost(a[0]);
            case "loophole": return loophole();
            case "shared": return shared(a[0]);
            case "saves": return a[0] < 0 ? savesMost() : w.all() - without(a[0]).all();
            case "turned": return turned();
            case "changed": return changed();
            case "wants": return wants(a[0], a[1]);
            default: return laterAnswer(name, a);
        }
    }

    private long laterAnswer(String name, int[] a) {
        switch (name) {
            case "songs": return songs(a[0], a[1], new ArrayList<>());
            case "inspectors": return inspectors(a[0]);
            case "chance": return chance(a[0], a[1]);
            case "mean": return mean(a[0]);
            case "twins": return twins(a[0]);
            case "chain": return chain(a[0], a[1]);
            case "heaps": return heaps(a[0]);
            case "pure": return pure(a[0]);
            case "margin": return margin(a[0], a[1]);
            case "firsts": return firsts();
            case "greedily": return greedily(a[0], a[1]);
            case "pair": return pair(a[0], a[1]);
            case "quota": return quota(a[0]);
            case "radius": return a[0] == 0 ? radius() : centre();
            case "majority": return majority();
            case "byKind": return a[0] < 0 ? dearestKind() : byKind(a[0]);
            case "banned": return banned(a[0]);
            case "moved": return a[0] < 0 ? movesBest() : moved(a[0]).all();
            case "unlikeMarks": Set<Integer> sets = new HashSet<>(); w.doings.forEach(d -> sets.add(d[2])); return sets.size();
            case "streak": return streak();
            case "row": row.add(a[0]); return row.size();
            case "judge": return judge();
            case "clear": int had = row.size(); row.clear(); return had;
            case "lots": return lots(a[0], a[1], a[2]);
            case "image": image = w.copy(); return w.log.size();
            case "restore": w = image.copy(); past.clear(); return w.log.size();
            case "count": return count(a[0]);
            default: throw new IllegalStateException(name);
        }
    }

    // ---- a STATE ----

    private long state() {
        String text = letters.toString();
        letters.setLength(0);
        for (int i = 0; i < text.length(); i++) {
            Matcher m = STATE.matcher(text.substring(0, i + 1));
            if (!m.matches() && !m.hitEnd()) {
                return -1000 - i;
            }
        }
        if (!STATE.matcher(text).matches()) {
            return -1000 - text.length();
        }
        World trial = w.copy();
        int place = 0;
        String[] statements = text.split(";");
        for (String statement : statements) {
            if (!comes(trial, statement)) {
                return -2000 - place;
            }
            place += statement.length() + 1;
        }
        w = trial;
        past.clear();
        return statements.length;
    }

    private static boolean comes(World trial, String s) {
        int n = s.length() > 1 ? Integer.parseInt(s.substring(1)) : 0;
        switch (s.charAt(0)) {
            case 'd':
                int[] d = {n / 10000, n / 1000 % 10, n % 1000};
                trial.doings.add(d);
                return d[0] <= 5 && d[2] <= 255 && trial.size() <= 8;
            case 'o':
                trial.log.add(n);
                return n < trial.size() && trial.log.size() <= 12;
            case 'l':
                trial.type = n / 10;
                trial.t = n % 10;
                return n / 10 <= 3 && n % 10 <= 8;
            case 'm':
                if (n / 10 >= trial.size() || n % 10 > 7) {
                    return false;
                }
                trial.doings.get(n / 10)[2] ^= 1 << n % 10;
                return true;
            default:
                trial.log.clear();
                return true;
        }
    }

    private long turn(int[] a) {
        keepPast();
        int[] d = w.doings.get(a[0]);
        int old = 10 * d[0] + d[1];
        d[0] = a[1];
        d[1] = a[2];
        return old;
    }

    // ---- sets, orders, rows ----

    private static List<Integer> members(int set) {
        List<Integer> all = new ArrayList<>();
        for (int i = 0; i < 31; i++) {
            if ((set >> i & 1) == 1) {
                all.add(i);
            }
        }
        return all;
    }

    private int best(int sign) {
        int best = -9;
        for (int d = 0; d < w.size(); d++) {
            if (best < 0 || sign * w.next(d) < sign * w.next(best)) {
                best = d;
            }
        }
        return best;
    }

    private int charged(int v) {
        for (int p = 0; p < w.log.size(); p++) {
            if (w.due(p) > v) {
                return p;
            }
        }
        return -9;
    }

    private List<Integer> bestOrder = null;
    private int bestOrderDue = 0;

    private long order(int set, int i) {
        bestOrder = null;
        tryOrders(members(set), new ArrayList<>());
        return i < 0 ? bestOrderDue : i < bestOrder.size() ? bestOrder.get(i) : -9;
    }

    private void tryOrders(List<Integer> left, List<Integer> done) {
        if (left.isEmpty()) {
            List<Integer> log = new ArrayList<>(w.log);
            log.addAll(done);
            int due = w.logged(log).all() - w.all();
            if (bestOrder == null || due < bestOrderDue) {
                bestOrder = new ArrayList<>(done);
                bestOrderDue = due;
            }
        }
        for (Integer one : left) {
            List<Integer> others = new ArrayList<>(left);
            others.remove(one);
            done.add(one);
            tryOrders(others, done);
            done.remove(done.size() - 1);
        }
    }

    private boolean allApart(List<Integer> set) {
        for (int a : set) {
            for (int b : set) {
                if (a != b && w.same(a, b)) {
                    return false;
                }
            }
        }
        return true;
    }

    private int unlike() {
        for (int size = w.size(); size > 0; size--) {
            for (int set = 0; set < 1 << w.size(); set++) {
                if (members(set).size() == size && allApart(members(set))) {
                    return set;
                }
            }
        }
        return 0;
    }

    private int people() {
        for (int k = 0; ; k++) {
            if (canShare(k, new ArrayList<>())) {
                return k;
            }
        }
    }

    private boolean canShare(int k, List<Integer> whose) {
        int d = whose.size();
        if (d == w.size()) {
            return true;
        }
        for (int person = 0; person < k; person++) {
            boolean free = true;
            for (int o = 0; o < d; o++) {
                free &= whose.get(o) != person || !w.same(o, d);
            }
            if (free) {
                whose.add(person);
                boolean can = canShare(k, whose);
                whose.remove(whose.size() - 1);
                if (can) {
                    return true;
                }
            }
        }
        return false;
    }

    private int likes(int d) {
        int n = 0;
        for (int o = 0; o < w.size(); o++) {
            n += o != d && w.same(o, d) ? 1 : 0;
        }
        return n;
    }

    private int mostLiked() {
        int best = -9;
        for (int d = 0; d < w.size(); d++) {
            if (best < 0 || likes(d) > likes(best)) {
                best = d;
            }
        }
        return best;
    }

    // ---- laws ----

    private static int code(World law) {
        return 10 * law.type + law.t;
    }

    private int reading(int fromType, int toType, int what) {
        int best = -1;
        int least = 0;
        for (int type = fromType; type <= toType; type++) {
            for (int t = 0; t <= 8; t++) {
                int all = w.by(type, t).all();
                if (best < 0 || all < least) {
                    best = 10 * type + t;
                    least = all;
                }
            }
        }
        return what == 0 ? best : least;
    }

    private List<World> fitting() {
        List<World> laws = new ArrayList<>();
        for (int law = 0; law < 36; law++) {
            World by = w.by(law / 9, law % 9);
            boolean fits = true;
            for (int i = 0; i < row.size(); i++) {
                fits &= Math.min(99, by.due(i)) == row.get(i);
            }
            if (fits) {
                laws.add(by);
            }
        }
        return laws;
    }

    private int tellsMost(int what) {
        int best = -9;
        int most = 0;
        for (int d = 0; d < w.size(); d++) {
            Set<Integer> parts = new HashSet<>();
            for (World law : fitting()) {
                parts.add(law.next(d));
            }
            if (parts.size() > most) {
                most = parts.size();
                best = d;
            }
        }
        return best < 0 ? -9 : what == 0 ? best : most;
    }

    private int loophole() {
        int best = -9;
        int least = w.all();
        for (int code = 0; code < 80; code++) {
            if (code / 10 < w.size() && code % 10 < 8) {
                World other = w.copy();
                other.doings.get(code / 10)[2] ^= 1 << code % 10;
                if (other.all() < least) {
                    least = other.all();
                    best = code;
                }
            }
        }
        return best;
    }

    // ---- THE LOG, were it another ----

    private int shared(int what) {
        int best = -1;
        int least = 0;
        for (int set = 0; set < 1 << w.log.size(); set++) {
            List<Integer> one = new ArrayList<>();
            List<Integer> two = new ArrayList<>();
            for (int p = 0; p < w.log.size(); p++) {
                ((set >> p & 1) == 1 ? two : one).add(w.log.get(p));
            }
            int due = w.logged(one).all() + w.logged(two).all();
            if (best < 0 || due < least) {
                best = set;
                least = due;
            }
        }
        return what == 0 ? least : best;
    }

    private World without(int place) {
        World other = w.copy();
        other.log.remove(place);
        return other;
    }

    private int savesMost() {
        int best = -9;
        for (int p = 0; p < w.log.size(); p++) {
            if (best < 0 || without(p).all() < without(best).all()) {
                best = p;
            }
        }
        return best;
    }

    private int turned() {
        List<Integer> log = new ArrayList<>();
        for (int doing : w.log) {
            log.add(0, doing);
        }
        return w.logged(log).all();
    }

    private int changed() {
        int best = -9;
        int least = w.all();
        for (int code = 0; code < 1200; code++) {
            int p = code / 100;
            int q = code % 100;
            if (p < q && q < w.log.size()) {
                World other = w.copy();
                other.log.set(p, w.log.get(q));
                other.log.set(q, w.log.get(p));
                if (other.all() < least) {
                    least = other.all();
                    best = code;
                }
            }
        }
        return best;
    }

    private World moved(int place) {
        return without(place).and(w.log.get(place));
    }

    private int movesBest() {
        int best = -9;
        int least = w.all();
        for (int p = 0; p < w.log.size(); p++) {
            if (moved(p).all() < least) {
                least = moved(p).all();
                best = p;
            }
        }
        return best;
    }

    private int banned(int what) {
        int best = -9;
        int least = 0;
        for (int d = 0; d < w.size(); d++) {
            if (w.log.contains(d)) {
                World other = w.copy();
                other.log.removeIf(Integer.valueOf(d)::equals);
                if (best < 0 || other.all() < least) {
                    best = d;
                    least = other.all();
                }
            }
        }
        return best < 0 ? -9 : what == 0 ? best : least;
    }

    private int byKind(int kind) {
        int sum = 0;
        for (int p = 0; p < w.log.size(); p++) {
            sum += w.doings.get(w.log.get(p))[0] == kind ? w.due(p) : 0;
        }
        return sum;
    }

    private int dearestKind() {
        int best = 0;
        for (int kind = 1; kind < 6; kind++) {
            best = byKind(kind) > byKind(best) ? kind : best;
        }
        return w.log.isEmpty() ? -9 : best;
    }

    private boolean isPure(int from, int to) {
        for (int p = from; p < to; p++) {
            for (int q = from; q < p; q++) {
                if (w.same(w.log.get(p), w.log.get(q))) {
                    return false;
                }
            }
        }
        return true;
    }

    private int pure(int what) {
        for (int length = w.log.size(); length > 0; length--) {
            for (int from = 0; from + length <= w.log.size(); from++) {
                if (isPure(from, from + length)) {
                    return what == 0 ? length : from;
                }
            }
        }
        return what == 0 ? 0 : -9;
    }

    private int streak() {
        for (int length = w.log.size(); length > 0; length--) {
            for (int from = 0; from + length <= w.log.size(); from++) {
                boolean all = true;
                for (int p = from + 1; p < from + length; p++) {
                    all &= w.same(w.log.get(p - 1), w.log.get(p));
                }
                if (all) {
                    return length;
                }
            }
        }
        return 0;
    }

    private int firsts() {
        int set = 0;
        for (int p = 0; p < w.log.size(); p++) {
            set += w.repeats(p) == 0 ? 1 << p : 0;
        }
        return set;
    }

    // ---- MARKS ----

    private int wants(int wanted, int what) {
        int fewest = -9;
        int cheapest = -9;
        int cost = 0;
        for (int set = 0; set < 1 << w.size(); set++) {
            int have = 0;
            int sum = 0;
            for (int d : members(set)) {
                have |= w.doings.get(d)[2];
                sum += w.next(d);
            }
            if ((have & wanted) == wanted) {
                if (fewest < 0 || members(set).size() < members(fewest).size()) {
                    fewest = set;
                }
                if (cheapest < 0 || sum < cost) {
                    cheapest = set;
                    cost = sum;
                }
            }
        }
        return what == 0 ? fewest : what == 1 || cheapest < 0 ? cheapest : cost;
    }

    private int twins(int what) {
        int best = -9;
        int most = -1;
        for (int code = 0; code < 80; code++) {
            int a = code / 10;
            int b = code % 10;
            if (a < b && b < w.size()) {
                int both = members(w.doings.get(a)[2] & w.doings.get(b)[2]).size();
                if (both > most) {
                    most = both;
                    best = code;
                }
            }
        }
        return best < 0 ? -9 : what == 0 ? best : most;
    }

    private int far(int a, int b) {
        return members(w.doings.get(a)[2] ^ w.doings.get(b)[2]).size();
    }

    private int radius() {
        int most = 0;
        for (int a = 0; a < w.size(); a++) {
            for (int b = 0; b < w.size(); b++) {
                most = Math.max(most, far(a, b));
            }
        }
        return most;
    }

    private int centre() {
        int best = -9;
        int least = 0;
        for (int a = 0; a < w.size(); a++) {
            int sum = 0;
            for (int b = 0; b < w.size(); b++) {
                sum += far(a, b);
            }
            if (best < 0 || sum < least) {
                best = a;
                least = sum;
            }
        }
        return best;
    }

    private int majority() {
        int set = 0;
        for (int bit = 1; bit < 256; bit *= 2) {
            int have = 0;
            int lack = 0;
            for (int[] d : w.doings) {
                have += (d[2] & bit) != 0 ? 1 : 0;
                lack += (d[2] & bit) == 0 ? 1 : 0;
            }
            set += have > lack ? bit : 0;
        }
        return set;
    }

    // ---- rows, chances ----

    private long songs(int n, int g, List<Integer> sung) {
        if (n == 0) {
            return 1;
        }
        if (g == 0) {
            return w.size() * songs(n - 1, g, sung);
        }
        long sum = 0;
        for (int d = 0; d < w.size(); d++) {
            boolean may = true;
            for (int k = Math.max(0, sung.size() - g); k < sung.size(); k++) {
                may &= !w.same(sung.get(k), d);
            }
            if (may) {
                sung.add(d);
                sum += songs(n - 1, g, sung);
                sung.remove(sung.size() - 1);
            }
        }
        return sum;
    }

    private int inspectors(int s) {
        List<Integer> come = new ArrayList<>();
        while (w.size() > 0) {
            int now = come.size() * s % w.size();
            for (int before : come) {
                if (w.same(before, now)) {
                    return come.size() + 1;
                }
            }
            come.add(now);
        }
        return -9;
    }

    private static long fraction(long above, long below, int part) {
        for (long k = Math.max(above, below); k > 1; k--) {
            if (above % k == 0 && below % k == 0) {
                return (part == 0 ? above : below) / k;
            }
        }
        return part == 0 ? above : below;
    }

    private long chance(int n, int part) {
        if (w.size() == 0) {
            return n == 0 ? 1 : part;
        }
        int all = 1;
        for (int i = 0; i < n; i++) {
            all *= w.size();
        }
        int free = 0;
        for (int code = 0; code < all; code++) {
            List<Integer> drawn = new ArrayList<>();
            for (int left = code, i = 0; i < n; i++, left /= w.size()) {
                drawn.add(left % w.size());
            }
            free += isFree(drawn) ? 1 : 0;
        }
        return fraction(free, all, part);
    }

    private boolean isFree(List<Integer> drawn) {
        for (int p = 0; p < drawn.size(); p++) {
            int r = 0;
            for (int q = 0; q < p; q++) {
                r += w.same(drawn.get(p), drawn.get(q)) ? 1 : 0;
            }
            int[] d = w.doings.get(drawn.get(p));
            if (dueOf(d[0], d[1], r) != 0) {
                return false;
            }
        }
        return true;
    }

    private long mean(int part) {
        long sum = 0;
        for (int d = 0; d < w.size(); d++) {
            sum += w.next(d);
        }
        return sum == 0 ? part : fraction(sum, w.size(), part);
    }

    private long lots(int n, int z, int what) {
        if (w.size() == 0) {
            return 0;
        }
        long seed = z;
        int sum = 0;
        int free = 0;
        for (int week = 0; week < n; week++) {
            List<Integer> log = new ArrayList<>();
            for (int i = 0; i < 12; i++) {
                seed = (int) (seed * 1103515245L + 12345L);
                log.add((int) (((seed & 0xffffffffL) % 0x80000000L / 65536) % w.size()));
            }
            int due = w.logged(log).all();
            sum += due;
            free += due == 0 ? 1 : 0;
        }
        return what == 0 ? sum : free;
    }

    // ---- the net, going on ----

    private int chain(int from, int to) {
        Set<Integer> reached = new HashSet<>(Set.of(from));
        for (int length = 1; length <= 8; length++) {
            if (reached.contains(to)) {
                return length;
            }
            for (int a : new ArrayList<>(reached)) {
                for (int b = 0; b < w.size(); b++) {
                    if (w.same(a, b)) {
                        reached.add(b);
                    }
                }
            }
        }
        return -9;
    }

    private int heaps(int what) {
        int heaps = 0;
        int most = 0;
        for (int d = 0; d < w.size(); d++) {
            int size = 0;
            boolean isFirst = true;
            for (int o = 0; o < w.size(); o++) {
                boolean hangs = chain(d, o) > 0;
                size += hangs ? 1 : 0;
                isFirst &= !hangs || o >= d;
            }
            heaps += isFirst ? 1 : 0;
            most = Math.max(most, size);
        }
        return what == 0 ? heaps : most;
    }

    private int margin(int doing, int v) {
        World more = w.copy();
        int sum = 0;
        for (int times = 0; times < 60; times++) {
            sum += more.next(doing);
            if (sum > v) {
                return times;
            }
            more.log.add(doing);
        }
        return 60;
    }

    private static int cheapest(World world) {
        int best = 0;
        for (int d = 1; d < world.size(); d++) {
            best = world.next(d) < world.next(best) ? d : best;
        }
        return best;
    }

    private int greedily(int n, int what) {
        World more = w.copy();
        int last = -9;
        for (int i = 0; i < n && w.size() > 0; i++) {
            last = cheapest(more);
            more.log.add(last);
        }
        return what == 0 ? more.all() - w.all() : last;
    }

    private int quota(int v) {
        World more = w.copy();
        for (int times = 0; times < 60 && w.size() > 0; times++) {
            more.log.add(cheapest(more));
            if (more.all() - w.all() > v) {
                return times;
            }
        }
        return 60;
    }

    private int pair(int n, int what) {
        int best = -9;
        int least = 0;
        for (int code = 0; code < 80; code++) {
            int a = code / 10;
            int b = code % 10;
            if (a < b && b < w.size()) {
                List<Integer> log = new ArrayList<>();
                for (int i = 0; i < n; i++) {
                    log.add(a);
                    log.add(b);
                }
                int due = w.logged(log).all();
                if (best < 0 || due < least) {
                    best = code;
                    least = due;
                }
            }
        }
        return best < 0 ? -9 : what == 0 ? best : least;
    }

    private int judge() {
        int wrong = -9;
        for (int i = row.size() - 1; i >= 0; i--) {
            if (noPlace(i) || !w.log.get(i).equals(row.get(i))) {
                wrong = i;
            }
        }
        row.clear();
        return wrong;
    }

    private int count(int what) {
        int marks = 0;
        for (int[] d : w.doings) {
            marks += members(d[2]).size();
        }
        if (what >= 11 && what <= 16) {
            return refused[what - 10];
        }
        int[] all = {w.size(), w.log.size(), w.type, w.t, w.all(), marks, letters.length(), row.size(), past.size()};
        return what >= 0 && what < all.length ? all[what] : -9;
    }
}
