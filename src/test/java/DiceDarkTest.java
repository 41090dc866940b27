/** Promises 23 to 27: odds, mean, dark, forget, works. */
public final class DiceDarkTest {
    private static final int BAD = SevenOnStrike.BAD, FULL = SevenOnStrike.FULL;
    private static final int[] WRONG = {-1, 2, Integer.MIN_VALUE, Integer.MAX_VALUE};

    public static void main(String[] args) {
        odds();
        mean();
        dark();
        darkRefused();
        forget();
        works();
        Due.end();
    }

    private static void oddsAre(SevenOnStrike x, int s, int above, int below) {
        Due.is("odds(" + s + ", 0)", x.odds(s, 0), above);
        Due.is("odds(" + s + ", 1)", x.odds(s, 1), below);
    }

    private static void odds() {
        SevenOnStrike plain = Due.laid("");
        oddsAre(plain, 0, 0, 1);
        oddsAre(plain, 1, 0, 1);
        oddsAre(plain, 2, 1, 36);
        oddsAre(plain, 6, 5, 36);
        oddsAre(plain, 7, 1, 6);
        oddsAre(plain, 12, 1, 36);
        oddsAre(plain, 13, 0, 1);
        SevenOnStrike nine = Due.laid("d9;x9;");
        oddsAre(nine, 18, 0, 1);
        oddsAre(nine, 16, 1, 81);
        oddsAre(nine, 0, 1, 81);
        oddsAre(nine, 8, 1, 9);
        SevenOnStrike blank = Due.laid("d2;x1;x2;x0;");
        oddsAre(blank, 0, 1, 1);
        oddsAre(blank, 2, 0, 1);
        SevenOnStrike half = Due.laid("d2;x2;");
        oddsAre(half, 0, 1, 4);
        oddsAre(half, 1, 1, 2);
        oddsAre(half, 2, 1, 4);
        Due.is("odds(18) of all nine", Due.laid("d9;").odds(18, 1), 81);
        Due.is("odds(19, 0)", plain.odds(19, 0), BAD);
        Due.is("odds(-1, 1)", plain.odds(-1, 1), BAD);
        for (int part : WRONG) {
            Due.is("odds(7, " + part + ")", plain.odds(7, part), BAD);
        }
    }

    private static void mean() {
        SevenOnStrike x = Due.laid("d9;");
        Due.is("mean(0) of 9", x.mean(0), 5);
        Due.is("mean(1) of 9", x.mean(1), 1);
        x.strike(1, 1);
        Due.is("mean(0) without 1", x.mean(0), 44);
        Due.is("mean(1) without 1", x.mean(1), 9);
        x = Due.laid("d2;x1;x2;");
        Due.is("mean(0) of blanks", x.mean(0), 0);
        Due.is("mean(1) of blanks", x.mean(1), 1);
        x = Due.laid("d4;x0;x5;x4;");
        Due.is("mean(0) of 1, 2, 3, blank", x.mean(0), 3);
        Due.is("mean(1) of 1, 2, 3, blank", x.mean(1), 2);
        for (int part : WRONG) {
            Due.is("mean(" + part + ")", x.mean(part), BAD);
        }
    }

    private static void dark() {
        SevenOnStrike x = new SevenOnStrike();
        int[] told = {0, 9, 10, 99, 100, 999, 1000, 9999};
        int[] heard = {9, 0, 99, 10, 999, 100, 9999, 1000};
        for (int i = 0; i < 8; i++) {
            Due.is("dark(" + told[i] + ", " + heard[i] + ")", x.dark(told[i], heard[i]), i + 1);
        }
        Due.is("dark when full", x.dark(1, 1), FULL);
        Due.is("a bad one when full", x.dark(1, 10), BAD);
        Due.is("count(4)", x.count(4), 8);
    }

    private static void darkRefused() {
        SevenOnStrike x = new SevenOnStrike();
        int[][] bad = {{-1, 1}, {1, -1}, {10000, 10000}, {9999, 10000}, {10000, 9999}, {9, 10}, {10, 9}, {0, 10},
            {99, 100}, {100, 99}, {999, 1000}, {1000, 999}, {Integer.MAX_VALUE, 1}, {1, Integer.MIN_VALUE}};
        for (int[] pair : bad) {
            Due.is("dark(" + pair[0] + ", " + pair[1] + ")", x.dark(pair[0], pair[1]), BAD);
        }
        Due.is("count(4)", x.count(4), 0);
    }

    private static void forget() {
        SevenOnStrike x = new SevenOnStrike();
        Due.is("forget of none", x.forget(), 0);
        x.dark(1, 2);
        x.dark(1, 3);
        Due.is("works", x.works(), 0);
        Due.is("forget", x.forget(), 2);
        Due.is("works behind it", x.works(), 2047);
        Due.is("dark behind it", x.dark(1, 1), 1);
    }

    private static void works() {
        SevenOnStrike x = Due.laid("x1;x2;f1,2;f2,3;f3,9;");
        Due.is("nothing told", x.works(), 2047);
        x.dark(13, 13);
        Due.is("1 must have worked", x.works(), 2);
        x.dark(2, 3);
        Due.is("and 2 not", x.works(), 2);
        x.dark(2, 2);
        Due.is("2 both ways", x.works(), 0);
        x.forget();
        x.dark(1231, 2332);
        Due.is("as it is, or if any of the others worked", x.works(), 2047 - 2 - 4);
        x.standIn(2, 4);
        Due.is("others stand in", x.works(), 0);
        x.undo();
        x.strike(1, 0);
        Due.is("1 works already", x.works(), 0);
        x.forget();
        x.dark(12, 13);
        Due.is("it counts as one that would", x.works(), 2047 - 4);
        SevenOnStrike nought = Due.laid("x1;f1,0;x0;f0,5;");
        nought.dark(10, 15);
        Due.is("no number is written with a nought ahead", nought.works(), 2);
        nought.forget();
        nought.dark(0, 5);
        Due.is("0 is one figure", nought.works(), 2047 - 1);
    }
}
