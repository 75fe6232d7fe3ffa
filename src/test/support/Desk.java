import java.lang.reflect.InvocationTargetException;
import java.lang.reflect.Method;
import java.nio.charset.StandardCharsets;
import java.util.ArrayList;
import java.util.Arrays;
import java.util.HashMap;
import java.util.List;
import java.util.Map;
import java.util.function.Supplier;

/** A TidingsDesk that is called by name; true counts 1, false 0. Calls are counted: behind the 512th all is free. */
final class Desk {
    static final int MOST_CALLS = 512;
    static final int FALSE = 0;
    static final int TRUE = 1;
    private static final Map<String, Method> METHODS = new HashMap<>();

    static {
        for (Method method : TidingsDesk.class.getMethods()) {
            METHODS.put(method.getName(), method);
        }
    }

    private final TidingsDesk desk = new TidingsDesk();
    private int calls = 0;

    /** A desk to which these REPORTS were told on DAY 0. */
    static Desk of(String... texts) {
        return new Desk().reports(texts);
    }

    int calls() {
        return calls;
    }

    int call(String name, int... numbers) {
        calls++;
        if (calls > MOST_CALLS) {
            throw new IllegalStateException("a test's object is called more than " + MOST_CALLS + " times");
        }
        try {
            Object answer = METHODS.get(name).invoke(desk, Arrays.stream(numbers).boxed().toArray());
            return answer instanceof Boolean yes ? (yes ? TRUE : FALSE) : (Integer) answer;
        } catch (InvocationTargetException | IllegalAccessException e) {
            throw new IllegalStateException(told(name, numbers) + " threw " + e.getCause(), e);
        }
    }

    private static String told(String name, int... numbers) {
        return name + Arrays.toString(numbers).replace('[', '(').replace(']', ')');
    }

    Desk due(int want, String name, int... numbers) {
        Sentences.check(told(name, numbers), call(name, numbers), want);
        return this;
    }

    /**
     * What a call answers with numbers that are not taken at one of its places: the first below and above those that
     * are, and some far away that come back to them if they wrap around.
     */
    Desk outside(int want, int place, int lowest, int highest, String name, int... numbers) {
        int[] out = {lowest - 1, highest + 1, Integer.MIN_VALUE, Integer.MIN_VALUE + lowest, Integer.MAX_VALUE,
            1 << 16, lowest - (1 << 8), highest + (1 << 8)};
        for (int number : out) {
            int[] changed = numbers.clone();
            changed[place] = number;
            due(want, name, changed);
        }
        return this;
    }

    /** Feeds a text of whatever length that the TAPE has room for. */
    Desk feed(String text) {
        byte[] bytes = text.getBytes(StandardCharsets.ISO_8859_1);
        for (int from = 0; from < bytes.length; from += 20) {
            int[] five = new int[5];
            for (int i = 0; i < 20 && from + i < bytes.length; i++) {
                five[i / 4] |= (bytes[from + i] & 255) << 8 * (3 - i % 4);
            }
            call("feed", five);
        }
        return this;
    }

    Desk reports(String... texts) {
        for (String text : texts) {
            int number = call("count", 1);
            feed(text).due(number, "report");
        }
        return this;
    }

    Desk corrects(int report, String text) {
        return feed(text).due(TRUE, "correct", report);
    }

    /** A hand tells all PAIRS of the REPORTS below a number one word. */
    Desk hands(int reports, int word) {
        for (int one = 0; one < reports; one++) {
            for (int other = one + 1; other < reports; other++) {
                due(TRUE, "hand", one, other, word);
            }
        }
        return this;
    }

    /** The GROUP of each REPORT known in q, and their COST. */
    Desk grouped(int q, int cost, int... firsts) {
        for (int r = 0; r < firsts.length; r++) {
            due(firsts[r], "group", r, q);
        }
        due((int) Arrays.stream(firsts).distinct().count(), "groups", q);
        return due(cost, "cost", q);
    }

    /** The FORMS FOUND in q, none behind them, and what they cost. */
    Desk found(int q, int cost, int... forms) {
        for (int i = 0; i < 4; i++) {
            due(i < forms.length ? forms[i] : -1, "form", i, q);
        }
        return due(cost, "forms", q);
    }

    /** What happening() tells of a REPORT's GROUP: 0, 1, .. as far as they are given. */
    Desk happens(int report, int q, int... want) {
        for (int what = 0; what < want.length; what++) {
            due(want[what], "happening", report, what, q);
        }
        return this;
    }

    /** A call that is refused, and leaves all as it is in a twin that was not called. */
    static void refused(Supplier<Desk> make, int want, String name, int... numbers) {
        make.get().due(want, name, numbers);
        int now = make.get().call("count", 0);
        for (int q : new int[] {0, now / 2, now}) {
            Desk called = make.get();
            called.call(name, numbers);
            Sentences.check("all in " + q + " behind " + told(name, numbers), called.state(q), make.get().state(q));
        }
        Desk called = make.get();
        called.call(name, numbers);
        Sentences.check("what comes behind " + told(name, numbers), called.future(), make.get().future());
    }

    /** What a refused call must leave: all that can be asked as known in q, in fewer than 300 calls. */
    List<Integer> state(int q) {
        List<Integer> answers = new ArrayList<>();
        for (int what = 0; what < 6; what++) {
            answers.add(call("count", what));
        }
        answers.add(call("fault"));
        int reports = answers.get(1);
        for (int one = 0; one < reports; one++) {
            answers.addAll(stateOf(one, q));
            for (int other = one + 1; other < reports; other++) {
                answers.add(call("pair", one, other, q));
            }
        }
        answers.add(call("cost", q));
        answers.add(call("groups", q));
        answers.add(call("at", 1, q));
        answers.add(call("forms", q));
        for (int i = 0; i < 3; i++) {
            answers.add(call("form", i, q));
        }
        return answers;
    }

    private List<Integer> stateOf(int report, int q) {
        List<Integer> answers = new ArrayList<>();
        for (int field = 0; field < 5; field++) {
            answers.add(call("field", report, field, q));
        }
        answers.add(call("upper", report, q));
        for (int i = 0; i < 3; i++) {
            answers.add(call("letter", report, i, 0, q));
            answers.add(call("letter", report, i, 5, q));
        }
        answers.add(call("group", report, q));
        for (int what = 0; what < 7; what++) {
            answers.add(call("happening", report, what, q));
        }
        answers.add(call("shape", report, q));
        return answers;
    }

    /** What the next changes answer and do: those show what no question does, such as the bytes of the TAPE. */
    private List<Integer> future() {
        List<Integer> answers = new ArrayList<>();
        answers.add(call("days", 1));
        answers.add(call("report"));
        answers.add(call("correct", 0));
        answers.add(call("deny", 0, 0));
        answers.add(call("feed", 0x64342020, 0, 0, 0, 0));
        answers.add(call("report"));
        answers.addAll(state(call("count", 0)));
        return answers;
    }
}
