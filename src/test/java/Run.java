import java.lang.reflect.Method;
import java.util.HashMap;
import java.util.Map;

/** A run of calls on one new object, written as texts such as "sight(-1, 0) = -4", for one sentence of the document. */
final class Run {
    private static final int MOST_CALLS = 512;
    private static final Map<String, Method> FACE = face();

    private final Due due;
    private final String sentence;
    private final SeenADayLate x = new SeenADayLate();
    private int calls = 0;

    Run(Due due, String sentence) {
        this.due = due;
        this.sentence = sentence;
    }

    private static Map<String, Method> face() {
        Map<String, Method> face = new HashMap<>();
        for (Method m : SeenADayLate.class.getDeclaredMethods()) {
            face.put(m.getName(), m);
        }
        return face;
    }

    /** Rows of a call and the answer that is due: a number, or a set of bits such as {0 4}. */
    Run goes(String... rows) {
        for (String row : rows) {
            int at = row.lastIndexOf(" = ");
            String call = row.substring(0, at);
            due.is(sentence + " | call " + (calls + 1) + ": " + call, ask(call), answer(row.substring(at + 3)));
        }
        return this;
    }

    /** The answer to one call; "tell(text)" feeds a text and asks moor(), "days(n)" is the last of n days. */
    int ask(String call) {
        int open = call.indexOf('(');
        String name = call.substring(0, open);
        String inside = call.substring(open + 1, call.length() - 1);
        int last = 0;
        switch (name) {
            case "tell":
                for (char letter : inside.toCharArray()) {
                    one("feed", letter);
                }
                return one("moor");
            case "days":
                for (int i = Integer.parseInt(inside); i > 0; i--) {
                    last = one("day");
                }
                return last;
            default:
                return one(name, numbers(inside));
        }
    }

    private int one(String name, int... args) {
        calls++;
        if (calls > MOST_CALLS) {
            throw new IllegalStateException("behind the last call that is promised: " + sentence);
        }
        Object[] boxed = new Object[args.length];
        for (int i = 0; i < args.length; i++) {
            boxed[i] = args[i];
        }
        try {
            return (Integer) FACE.get(name).invoke(x, boxed);
        } catch (ReflectiveOperationException e) {
            throw new IllegalStateException(sentence + " | " + name, e);
        }
    }

    private static int[] numbers(String inside) {
        if (inside.isEmpty()) {
            return new int[0];
        }
        String[] parts = inside.split(", ");
        int[] numbers = new int[parts.length];
        for (int i = 0; i < parts.length; i++) {
            numbers[i] = number(parts[i]);
        }
        return numbers;
    }

    private static int number(String text) {
        switch (text) {
            case "MIN": return Integer.MIN_VALUE;
            case "MAX": return Integer.MAX_VALUE;
            default: return Integer.parseInt(text);
        }
    }

    private static int answer(String text) {
        if (!text.startsWith("{")) {
            return number(text);
        }
        int set = 0;
        for (String cell : text.substring(1, text.length() - 1).split(" ")) {
            set |= cell.isEmpty() ? 0 : 1 << Integer.parseInt(cell);
        }
        return set;
    }
}
