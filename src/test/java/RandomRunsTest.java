import java.lang.reflect.InvocationTargetException;
import java.lang.reflect.Method;
import java.util.ArrayList;
import java.util.HashMap;
import java.util.List;
import java.util.Map;

/**
 * Runs of drawn calls, the same ones each time, held against PlainModel.
 * A first argument tells how many runs, a second one from which seed on.
 */
public final class RandomRunsTest {
    private static final int CALLS = 300;
    private static final Map<String, Method> METHODS = new HashMap<>();
    private static final List<String> NAMES = new ArrayList<>();

    private long seed;
    /** Every third run begins with all DOINGS and places that there can be, and seldom empties. */
    private final boolean isFull;

    private RandomRunsTest(long number) {
        seed = number * 7919 + 17;
        isFull = number % 3 == 0;
    }

    private int draw(int n) {
        seed = seed * 6364136223846793005L + 1442695040888963407L;
        return (int) ((seed >>> 33) % n);
    }

    private int draw(int from, int to) {
        return from + draw(to - from + 1);
    }

    private boolean rarely() {
        return draw(25) == 0;
    }

    /** A number that may be wrong now and then, by little or by much. */
    private int about(int from, int to) {
        if (!rarely()) {
            return draw(from, to);
        }
        int[] odd = {from - 1, to + 1, from - 2, to + 2, Integer.MIN_VALUE, Integer.MAX_VALUE, -1, 0, 300};
        return odd[draw(odd.length)];
    }

    private int someMarks() {
        int[] few = {0, 1, 1, 2, 3, 3, 4, 7, 15, 16, 240, 255};
        return draw(2) == 0 ? few[draw(few.length)] : draw(4) == 0 ? about(0, 255) : draw(0, 7);
    }

    private int someFigure() {
        return draw(2) == 0 ? draw(0, 1) : about(0, 9);
    }

    private int[] arguments(String name) {
        switch (name) {
            case "feed": return new int[] {about(0, 255)};
            case "doingOf": case "place": return new int[] {about(0, 7), about(0, 2)};
            case "doing": return new int[] {about(0, 5), someFigure(), someMarks()};
            case "does": case "next": return new int[] {about(0, 7)};
            case "turn": return new int[] {about(0, 7), about(0, 5), someFigure()};
            case "marks": return new int[] {about(0, 7), about(0, 7)};
            case "law": return new int[] {about(0, 3), draw(2) == 0 ? about(0, 8) : draw(0, 3)};
            case "same": case "chain": return new int[] {about(0, 7), about(0, 7)};
            case "charged": case "quota": return new int[] {draw(3) == 0 ? about(0, 999) : draw(0, 40)};
            case "order": return new int[] {about(0, 255), about(-1, 6)};
            case "like": return new int[] {about(-1, 7)};
            case "saves": case "moved": return new int[] {about(-1, 11)};
            case "wants": return new int[] {draw(3) == 0 ? about(0, 255) : draw(0, 7), about(0, 2)};
            case "songs": return new int[] {draw(4) == 0 ? about(0, 8) : about(0, 5), about(0, 2)};
            case "inspectors": return new int[] {about(1, 9)};
            case "chance": return new int[] {about(0, 5), about(0, 1)};
            case "margin": return new int[] {about(0, 7), draw(3) == 0 ? about(0, 999) : draw(0, 40)};
            case "greedily": return new int[] {about(0, 12), about(0, 1)};
            case "pair": return new int[] {about(0, 6), about(0, 1)};
            case "byKind": return new int[] {about(-1, 5)};
            case "row": return new int[] {draw(2) == 0 ? about(0, 9) : about(0, 99)};
            case "lots": return new int[] {about(1, 20), draw(2) == 0 ? draw(100) : about(-2000000000, 2000000000), about(0, 1)};
            case "count": return new int[] {about(0, 17)};
            default: return METHODS.get(name).getParameterCount() == 0 ? new int[0] : new int[] {about(0, 1)};
        }
    }

    private String someStatement() {
        String[] forms = {"d", "o", "o", "o", "l", "m", "x"};
        String form = forms[draw(forms.length)];
        switch (form) {
            case "d":
                return String.format("d%d%d%03d;", draw(rarely() ? 10 : 6), draw(10), rarely() ? draw(1000) : Math.min(255, Math.max(0, someMarks())));
            case "o":
                return "o" + draw(rarely() ? 10 : 4) + ";";
            case "l":
                return "l" + draw(rarely() ? 10 : 4) + draw(rarely() ? 10 : 9) + ";";
            case "m":
                return "m" + draw(rarely() ? 10 : 4) + draw(rarely() ? 10 : 8) + ";";
            default:
                return draw(4) == 0 ? "x;" : "o0;";
        }
    }

    private String someText() {
        StringBuilder text = new StringBuilder();
        for (int i = draw(9); i > 0; i--) {
            text.append(someStatement());
        }
        if (text.length() > 0 && draw(5) == 0) {
            String other = "dolmx;0123456789:/ D";
            text.setCharAt(draw(text.length()), other.charAt(draw(other.length())));
        }
        if (text.length() > 0 && draw(8) == 0) {
            text.setLength(draw(text.length()));
        }
        return text.toString();
    }

    /** The calls that come next: mostly one, at times some that belong together. */
    private List<Object[]> someCalls(PlainModel model) {
        List<Object[]> calls = new ArrayList<>();
        int kind = draw(40);
        if (kind == 0) {
            for (char letter : someText().toCharArray()) {
                calls.add(new Object[] {"feed", new int[] {letter}});
            }
            calls.add(new Object[] {"state", new int[0]});
        } else if (kind <= 2) {
            calls.add(new Object[] {"clear", new int[0]});
            for (int p = 0, n = draw(8); p < n; p++) {
                int told = kind == 1 ? model.dueAt(p) : model.doingAt(p);
                if (told >= 0 || rarely()) {
                    calls.add(new Object[] {"row", new int[] {Math.min(99, Math.max(0, rarely() ? told + 1 : told))}});
                }
            }
            calls.add(new Object[] {kind == 1 ? "fits" : "judge", kind == 1 ? new int[] {draw(2)} : new int[0]});
            if (kind == 1) {
                calls.add(new Object[] {"tellsMost", new int[] {draw(2)}});
            }
        } else if (kind <= 9) {
            calls.add(call("does"));
        } else {
            String name = NAMES.get(draw(NAMES.size()));
            boolean empties = name.equals("empties") || name.equals("restore");
            calls.add(call(empties && draw(isFull ? 20 : 3) > 0 ? "does" : name));
        }
        return calls;
    }

    private Object[] call(String name) {
        return new Object[] {name, arguments(name)};
    }

    private static long ask(SecondHelping x, String name, int[] arguments) throws Exception {
        Object[] boxed = new Object[arguments.length];
        for (int i = 0; i < arguments.length; i++) {
            boxed[i] = arguments[i];
        }
        try {
            return ((Number) METHODS.get(name).invoke(x, boxed)).longValue();
        } catch (InvocationTargetException thrown) {
            throw new IllegalStateException(name + " threw", thrown.getCause());
        }
    }

    /** Runs one drawn run; tells whether all answers were as due. */
    private boolean run(long number) throws Exception {
        SecondHelping x = new SecondHelping();
        PlainModel model = new PlainModel();
        List<Object[]> start = new ArrayList<>();
        for (int i = isFull ? 10 : draw(10); i > 0; i--) {
            start.add(call("doing"));
        }
        for (int i = isFull ? 14 : 0; i > 0; i--) {
            start.add(call("does"));
        }
        StringBuilder told = new StringBuilder();
        int made = 0;
        while (made < CALLS) {
            List<Object[]> calls = start.isEmpty() ? someCalls(model) : start;
            for (Object[] one : calls) {
                String name = (String) one[0];
                int[] arguments = (int[]) one[1];
                long got = ask(x, name, arguments);
                long want = model.call(name, arguments);
                told.append(name).append(java.util.Arrays.toString(arguments)).append(' ').append(got).append('\n');
                made++;
                if (got != want) {
                    System.out.println("run " + number + ": due is " + want + " at the end of\n" + told);
                    return false;
                }
            }
            start = new ArrayList<>();
        }
        return true;
    }

    public static void main(String[] args) throws Exception {
        for (Method method : SecondHelping.class.getDeclaredMethods()) {
            if (java.lang.reflect.Modifier.isPublic(method.getModifiers())) {
                METHODS.put(method.getName(), method);
                NAMES.add(method.getName());
            }
        }
        java.util.Collections.sort(NAMES);
        int runs = args.length > 0 ? Integer.parseInt(args[0]) : 150;
        long from = args.length > 1 ? Long.parseLong(args[1]) : 0;
        for (long number = from; number < from + runs; number++) {
            if (!new RandomRunsTest(number).run(number)) {
                System.exit(1);
            }
        }
        System.out.println(runs + " drawn runs are as the plain model tells");
    }
}
