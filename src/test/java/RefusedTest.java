import java.util.ArrayList;
import java.util.List;
import java.util.Map;
import java.util.TreeMap;

/**
 * "BAD: a number is none that is told. NO: not as things stand. NONE: there is none. FULL. Of several the
 * first; nothing changes then." Each refused call is made on one of two like runs, which read alike behind it.
 */
public final class RefusedTest {
    private static final int BAD = SevenOnStrike.BAD, NO = SevenOnStrike.NO;
    private static final int FULL = SevenOnStrike.FULL, NONE = SevenOnStrike.NONE;

    /** Each call with numbers, and the least and the greatest of each number that is told. */
    private static final String[] BOUNDS = {"write 32..126", "figure 0..9 0..1", "strike 0..9 0..1",
        "standIn 0..9 0..9", "said 0..99999", "next 0..99999", "rank 0..99999", "kth 0..99999", "sum 0..2",
        "ways 0..999", "shortest 0..999 0..3", "change 0..200", "pays 0..200", "day 0..9999", "odds 0..18 0..1",
        "mean 0..1", "dark 0..9999 0..9999", "costs 0..9 0..9999", "dearest 0..9999 0..1",
        "bargain 0..9 0..9 0..9999", "days 0..9999 1..50 0..1", "count 0..7"};

    /** Calls that only ask: what they answer is not looked at here. */
    private static final String[] ASKING = {"fault", "figure 7 0", "figure 7 1", "coin 0", "said 7", "next 6",
        "rank 99999", "kth 70", "sum 0", "sum 1", "sum 2", "ways 7", "shortest 77 0", "change 200", "never",
        "pays 200", "day 9999", "agree", "odds 7 0", "odds 7 1", "mean 0", "mean 1", "works", "costs 7 9999",
        "dearest 9999 0", "dearest 9999 1", "bargain 7 6 9999", "days 9999 50 0", "days 9999 50 1", "count 0"};

    private static final String ALL_STRIKE = "x0;x1;x2;x3;x4;x5;x6;x7;x8;x9;";
    private static final Map<String, String[]> STATES = states();

    public static void main(String[] args) {
        for (String state : STATES.keySet()) {
            beyondTheBounds(state);
            withinTheBounds(state);
            alikeOrNotAsLong(state);
            coinsThatAreNotTold(state);
            askingChangesNothing(state);
        }
        notAsThingsStand();
        thereIsNone();
        full();
        badComesFirst();
        Due.end();
    }

    private static Map<String, String[]> states() {
        Map<String, String[]> states = new TreeMap<>();
        states.put("new", new String[] {});
        states.put("nothing told", new String[] {"lay"});
        states.put("all on strike", new String[] {"text " + ALL_STRIKE, "lay"});
        states.put("at work", new String[] {"text x1;x7;f1,2;f7,1;c1;c20;d9;w1;e17*71-7;", "lay", "keep", "strike 2 1",
            "strike 1 0", "standIn 7 9", "dark 7 9", "dark 12 13", "text x3;f3,4;c3;d8;w2;e33;x10;"});
        states.put("a full text", new String[] {"strike 3 1", "dark 3 7", "keep", "text " + fullText("c50;")});
        states.put("a full text with a fault", new String[] {"text " + fullText("f2,0")});
        states.put("all else full", new String[] {"text x5;c1;c2;c3;c4;c5;c99;e9*9*9*9*9*9*9*9*9*99;", "lay", "keep",
            "strike 1 1", "keep", "standIn 1 2", "standIn 2 3", "strike 2 1", "strike 1 0", "standIn 3 4",
            "strike 3 1", "strike 4 1", "standIn 4 5", "dark 2 3", "dark 22 33", "dark 3 4", "dark 4 5", "dark 5 5",
            "dark 6 6", "dark 1 1", "dark 9999 9999", "text x6;f6,7;c50;d2;w9;e6"});
        return states;
    }

    private static String fullText(String ending) {
        return "x6;f6,9;c6;c60;d8;w8;e6*60-600;" + "x2;".repeat(55) + ending;
    }

    private static Run behind(String state) {
        return Run.behind(STATES.get(state));
    }

    private static void isRefused(String state, String call, int refusal) {
        Run refused = behind(state);
        Due.is(state + ": " + call, refused.call(call), refusal);
        readsAlike(state + ": behind " + call, state, refused);
    }

    private static void readsAlike(String what, String state, Run run) {
        List<Integer> due = behind(state).reading();
        List<Integer> got = run.reading();
        Due.holds(what + " all is as before: " + got + ", not " + due, got.equals(due));
    }

    /** A call with all its numbers in the middle, then with one of them changed. */
    private static final class Numbers {
        private final String name;
        private final int[] least;
        private final int[] most;

        Numbers(String bounds) {
            String[] words = bounds.split(" ");
            name = words[0];
            least = new int[words.length - 1];
            most = new int[words.length - 1];
            for (int i = 0; i < least.length; i++) {
                String[] ends = words[i + 1].split("\\.\\.");
                least[i] = Integer.parseInt(ends[0]);
                most[i] = Integer.parseInt(ends[1]);
            }
        }

        String with(int place, int n) {
            StringBuilder call = new StringBuilder(name);
            for (int i = 0; i < least.length; i++) {
                call.append(' ').append(i == place ? n : plain(i, place, n));
            }
            return call.toString();
        }

        // So that neither a bargain is alike nor what is told of the dark not as long.
        private int plain(int i, int place, int n) {
            if (name.equals("dark")) {
                return n > most[place] || n < least[place] ? most[i] : n;
            }
            return i == 0 && least.length == 3 ? least[i] + 5 : least[i] + 1;
        }

        List<Integer> beyond(int place) {
            List<Integer> beyond = new ArrayList<>();
            int[] drawn = {least[place] - 1, most[place] + 1, -most[place], Integer.MIN_VALUE, Integer.MAX_VALUE,
                least[place] + 32, least[place] + 256, least[place] + 65536, least[place] - 65536};
            for (int n : drawn) {
                if (n < least[place] || n > most[place]) {
                    beyond.add(n);
                }
            }
            return beyond;
        }
    }

    private static void beyondTheBounds(String state) {
        for (String bounds : BOUNDS) {
            Numbers numbers = new Numbers(bounds);
            for (int place = 0; place < numbers.least.length; place++) {
                for (int n : numbers.beyond(place)) {
                    isRefused(state, numbers.with(place, n), BAD);
                }
            }
        }
    }

    private static void withinTheBounds(String state) {
        for (String bounds : BOUNDS) {
            Numbers numbers = new Numbers(bounds);
            for (int place = 0; place < numbers.least.length; place++) {
                for (int n : new int[] {numbers.least[place], numbers.most[place]}) {
                    String call = numbers.with(place, n);
                    Due.holds(state + ": " + call + " is not BAD", behind(state).call(call) != BAD);
                }
            }
        }
    }

    private static void alikeOrNotAsLong(String state) {
        for (int f = 0; f <= 9; f++) {
            isRefused(state, "bargain " + f + " " + f + " 9999", BAD);
        }
        int[] longest = {9, 99, 999, 9999};
        for (int a : longest) {
            for (int b : longest) {
                if (a != b) {
                    isRefused(state, "dark " + a + " " + b, BAD);
                    isRefused(state, "dark " + (a / 10 + 1) + " " + (b / 10 + 1), BAD);
                }
            }
            isRefused(state, "dark " + a + " " + (a + 1), BAD);
            isRefused(state, "dark " + (a + 1) + " " + a, BAD);
        }
        isRefused(state, "dark 0 10", BAD);
        isRefused(state, "dark 10 0", BAD);
    }

    private static void coinsThatAreNotTold(String state) {
        int coins = behind(state).call("count 1");
        for (int k : new int[] {-1, coins, 6, 7, 256, Integer.MIN_VALUE, Integer.MAX_VALUE}) {
            isRefused(state, "coin " + k, BAD);
        }
        if (coins > 0) {
            Due.holds(state + ": the first coin is told", behind(state).call("coin 0") > 0);
            Due.holds(state + ": the last coin is told", behind(state).call("coin " + (coins - 1)) > 0);
        }
    }

    private static void askingChangesNothing(String state) {
        for (String call : ASKING) {
            Run asked = behind(state);
            asked.call(call);
            readsAlike(state + ": behind " + call, state, asked);
        }
    }

    private static void notAsThingsStand() {
        for (String state : new String[] {"at work", "a full text with a fault", "all else full"}) {
            isRefused(state, "lay", NO);
        }
        for (String state : new String[] {"new", "nothing told", "all on strike"}) {
            isRefused(state, "undo", NO);
            isRefused(state, "back", NO);
        }
        for (String state : STATES.keySet()) {
            for (int f = 0; f <= 9; f++) {
                isRefused(state, "strike " + f + " " + behind(state).call("figure " + f + " 0"), NO);
            }
        }
    }

    private static void thereIsNone() {
        for (String call : new String[] {"fault", "next 0", "next 99999", "kth 0", "kth 99999", "shortest 0 0",
            "shortest 999 3", "change 1", "change 200", "day 0", "day 9999", "agree"}) {
            isRefused("all on strike", call, NONE);
        }
        isRefused("new", "fault", NONE);
        isRefused("new", "next 99999", NONE);
        isRefused("new", "change 199", NONE);
        isRefused("nothing told", "change 1", NONE);
        isRefused("nothing told", "next 99999", NONE);
        STATES.put("a coin of one", new String[] {"text c1;", "lay"});
        isRefused("a coin of one", "never", NONE);
    }

    private static void full() {
        isRefused("a full text", "write 59", FULL);
        isRefused("a full text with a fault", "write 59", FULL);
        isRefused("a full text", "write 32", FULL);
        isRefused("a full text", "write 126", FULL);
        isRefused("all else full", "dark 0 0", FULL);
        isRefused("all else full", "dark 9999 9999", FULL);
        isRefused("all else full", "keep", FULL);
    }

    private static void badComesFirst() {
        isRefused("a full text", "write 31", BAD);
        isRefused("a full text", "write 127", BAD);
        isRefused("all else full", "dark 9 10", BAD);
        isRefused("all else full", "dark 10000 10000", BAD);
        isRefused("new", "strike 10 1", BAD);
        isRefused("new", "strike 7 2", BAD);
        isRefused("all on strike", "next 100000", BAD);
        isRefused("all on strike", "kth 100000", BAD);
        isRefused("all on strike", "shortest 5 4", BAD);
        isRefused("all on strike", "shortest 1000 0", BAD);
        isRefused("all on strike", "change 201", BAD);
        isRefused("all on strike", "day 10000", BAD);
    }
}
