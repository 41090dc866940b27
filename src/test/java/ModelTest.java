import java.lang.reflect.Method;
import java.lang.reflect.Modifier;
import java.util.ArrayList;
import java.util.Comparator;
import java.util.List;
import java.util.Random;

/** All promises: runs of drawn calls, 512 at most, against the model. */
public final class ModelTest {
    private static final int RUNS = 120;
    private static final int[] EDGES = {0, 9, 10, 50, 51, 99, 200, 201, 999, 1000, 9999, 10000, 99999, 100000,
        -1, Integer.MIN_VALUE, Integer.MAX_VALUE};

    private final Random random;
    private final SevenOnStrike x = new SevenOnStrike();
    private final Model model = new Model();
    private final StringBuilder run = new StringBuilder();

    private ModelTest(long seed) {
        random = new Random(seed);
    }

    public static void main(String[] args) throws Exception {
        List<Method> face = new ArrayList<>();
        for (Method m : SevenOnStrike.class.getDeclaredMethods()) {
            if (Modifier.isPublic(m.getModifiers())) {
                face.add(m);
            }
        }
        face.sort(Comparator.comparing(Method::getName));
        for (int seed = 0; seed < RUNS; seed++) {
            new ModelTest(seed).play(face);
        }
        Due.end();
    }

    private void play(List<Method> face) throws Exception {
        int left = 512;
        while (left > 0) {
            if (left > 210 && random.nextInt(60) == 0) {
                left -= tell();
            } else {
                Method m = face.get(random.nextInt(face.size()));
                boolean rare = m.getName().equals("lay") && random.nextInt(3) > 0;
                if (!rare) {
                    call(m, arguments(m));
                    left--;
                }
            }
        }
    }

    private void call(Method m, Object[] arguments) throws Exception {
        Method same = Model.class.getMethod(m.getName(), m.getParameterTypes());
        StringBuilder call = new StringBuilder(m.getName()).append('(');
        for (int i = 0; i < arguments.length; i++) {
            call.append(i == 0 ? "" : ", ").append(arguments[i]);
        }
        run.append(call.append(") "));
        Due.is(run.length() < 2000 ? run.toString() : call.toString(),
            (Integer) m.invoke(x, arguments), (Integer) same.invoke(model, arguments));
    }

    private Object[] arguments(Method m) {
        Object[] arguments = new Object[m.getParameterCount()];
        for (int i = 0; i < arguments.length; i++) {
            arguments[i] = argument(m.getName(), i);
        }
        return arguments;
    }

    private int argument(String name, int place) {
        if (random.nextInt(12) == 0) {
            return EDGES[random.nextInt(EDGES.length)];
        }
        switch (name) {
            case "write": return random.nextInt(2) == 0 ? "xfcdwe;".charAt(random.nextInt(7)) : 40 + random.nextInt(20);
            case "figure": return random.nextInt(place == 0 ? 10 : 2);
            case "strike": return random.nextInt(place == 0 ? 10 : 2);
            case "standIn": return random.nextInt(10);
            case "coin": return random.nextInt(6);
            case "said": case "next": case "rank": case "kth": return number(99999);
            case "sum": return random.nextInt(3);
            case "ways": return number(999);
            case "shortest": return place == 0 ? number(999) : random.nextInt(4);
            case "change": case "pays": return random.nextInt(201);
            case "odds": return random.nextInt(place == 0 ? 19 : 2);
            case "mean": return random.nextInt(2);
            case "costs": return place == 0 ? random.nextInt(10) : number(9999);
            case "dearest": return place == 0 ? number(9999) : random.nextInt(2);
            case "bargain": return place < 2 ? random.nextInt(10) : number(9999);
            case "days": return place == 0 ? number(9999) : place == 1 ? 1 + random.nextInt(50) : random.nextInt(2);
            case "count": return random.nextInt(8);
            default: return number(9999);
        }
    }

    /** As many short numbers as long ones. */
    private int number(int most) {
        int top = 10;
        for (int places = random.nextInt(5); places > 0 && top <= most; places--) {
            top *= 10;
        }
        return random.nextInt(Math.min(most + 1, top));
    }

    /** Writes and lays a text, seldom one with a fault; answers how many calls that took. */
    private int tell() throws Exception {
        StringBuilder text = new StringBuilder();
        int items = random.nextInt(16);
        for (int i = 0; i < items; i++) {
            text.append(item());
        }
        if (random.nextInt(4) == 0 && text.length() > 0) {
            int at = random.nextInt(text.length());
            text.setCharAt(at, "0123456789;,xfcdwe+-*".charAt(random.nextInt(21)));
        }
        text.setLength(Math.min(200, text.length()));
        call(SevenOnStrike.class.getMethod("wipe"), new Object[0]);
        for (int i = 0; i < text.length(); i++) {
            call(SevenOnStrike.class.getMethod("write", int.class), new Object[] {(int) text.charAt(i)});
        }
        call(SevenOnStrike.class.getMethod("fault"), new Object[0]);
        call(SevenOnStrike.class.getMethod("lay"), new Object[0]);
        tellOfTheDark();
        return text.length() + 6;
    }

    /** Mostly what is heard as things stand, or would be with one figure at work. */
    private void tellOfTheDark() throws Exception {
        Method dark = SevenOnStrike.class.getMethod("dark", int.class, int.class);
        int works = random.nextInt(12);
        for (int i = 0; i < 3; i++) {
            String a = String.valueOf(number(9999));
            StringBuilder b = new StringBuilder();
            for (char c : a.toCharArray()) {
                int f = c - '0';
                b.append(f != works && model.figure(f, 0) == 1 ? model.figure(f, 1) : f);
            }
            call(dark, new Object[] {Integer.valueOf(a), Integer.valueOf(b.toString())});
        }
    }

    private String item() {
        switch (random.nextInt(9)) {
            case 0: case 1: return "x" + random.nextInt(10) + ";";
            case 2: case 3: return "f" + random.nextInt(10) + "," + random.nextInt(10) + ";";
            case 4: case 5: return "c" + (1 + random.nextInt(random.nextBoolean() ? 9 : 99)) + ";";
            case 6: return "d" + (2 + random.nextInt(8)) + ";";
            case 7: return "w0" + (1 + random.nextInt(9)) + ";";
            default: return "e" + sum() + ";";
        }
    }

    private String sum() {
        StringBuilder sum = new StringBuilder();
        int numbers = 1 + random.nextInt(4);
        for (int i = 0; i < numbers; i++) {
            sum.append(i == 0 ? "" : "+-**".charAt(random.nextInt(4)));
            int figures = 1 + random.nextInt(4);
            for (int k = 0; k < figures; k++) {
                sum.append(random.nextInt(10));
            }
        }
        return sum.toString();
    }
}
