/** Counts the answers that are not as due. */
final class Due {
    private static int wrong = 0;

    private Due() {
    }

    static void is(String call, long got, long want) {
        if (got != want) {
            wrong++;
            System.out.println(call + " answered " + got + ", due is " + want);
        }
    }

    static void holds(String what, boolean so) {
        if (!so) {
            wrong++;
            System.out.println("not so: " + what);
        }
    }

    /** Ends the test with exit code 1 if an answer was wrong. */
    static void end() {
        if (wrong != 0) {
            System.out.println(wrong + " answers are not as due");
            System.exit(1);
        }
    }

    static int write(SevenOnStrike x, String text) {
        int length = x.count(7);
        for (int i = 0; i < text.length(); i++) {
            length = x.write(text.charAt(i));
        }
        return length;
    }

    /** The text that tells these figures' strikes, a bit each. */
    static String strikes(int figures) {
        StringBuilder text = new StringBuilder();
        for (int f = 0; f <= 9; f++) {
            text.append((figures >> f & 1) == 1 ? "x" + f + ";" : "");
        }
        return text.toString();
    }

    /** Lays a text on a new object. */
    static SevenOnStrike laid(String text) {
        SevenOnStrike x = new SevenOnStrike();
        write(x, text);
        is("lay of " + text, x.lay(), x.count(0));
        return x;
    }

    static int faultOf(String text) {
        SevenOnStrike x = new SevenOnStrike();
        write(x, text);
        return x.fault();
    }
}
