import java.lang.reflect.Method;
import java.lang.reflect.Modifier;
import java.util.ArrayList;
import java.util.List;
import java.util.Map;
import java.util.TreeMap;

/** One object whose calls are told as texts ("strike 7 0") and counted: behind 512 an answer is free. */
final class Run {
    private static final int MOST_CALLS = 512;
    private static final Map<String, Method> FACE = face();

    private final SevenOnStrike x = new SevenOnStrike();
    private int calls = 0;

    private static Map<String, Method> face() {
        Map<String, Method> face = new TreeMap<>();
        for (Method m : SevenOnStrike.class.getDeclaredMethods()) {
            if (Modifier.isPublic(m.getModifiers())) {
                face.put(m.getName(), m);
            }
        }
        return face;
    }

    /** A new object behind these calls; "text x7;" wipes and writes, a letter by a letter. */
    static Run behind(String... calls) {
        Run run = new Run();
        for (String call : calls) {
            if (call.startsWith("text ")) {
                run.tell(call.substring(5));
            } else {
                run.call(call);
            }
        }
        return run;
    }

    int call(String call) {
        String[] words = call.split(" ");
        Object[] arguments = new Object[words.length - 1];
        for (int i = 0; i < arguments.length; i++) {
            arguments[i] = Integer.valueOf(words[i + 1]);
        }
        calls++;
        Due.holds("at most " + MOST_CALLS + " calls, this one being " + call, calls <= MOST_CALLS);
        try {
            return (Integer) FACE.get(words[0]).invoke(x, arguments);
        } catch (ReflectiveOperationException e) {
            throw new IllegalStateException(call, e);
        }
    }

    private void tell(String text) {
        call("wipe");
        for (int i = 0; i < text.length(); i++) {
            call("write " + (int) text.charAt(i));
        }
    }

    /** All that can be asked of the state; what hides below is dug out, so the run is used up by it. */
    List<Integer> reading() {
        List<Integer> seen = new ArrayList<>();
        readTold(seen);
        while (take(seen, "undo") != SevenOnStrike.NO) {
            readFigures(seen);
        }
        while (take(seen, "back") != SevenOnStrike.NO) {
            readFigures(seen);
        }
        take(seen, "lay");
        readTold(seen);
        return seen;
    }

    private void readTold(List<Integer> seen) {
        readFigures(seen);
        for (int what = 0; what <= 7; what++) {
            take(seen, "count " + what);
        }
        for (int k = 0; k <= 6; k++) {
            take(seen, "coin " + k);
        }
        for (int what = 0; what <= 2; what++) {
            take(seen, "sum " + what);
        }
        take(seen, "fault");
    }

    private void readFigures(List<Integer> seen) {
        for (int f = 0; f <= 9; f++) {
            take(seen, "figure " + f + " 0");
            take(seen, "figure " + f + " 1");
        }
        take(seen, "works");
    }

    private int take(List<Integer> seen, String call) {
        int answer = call(call);
        seen.add(answer);
        return answer;
    }
}
