/** Promises 23 to 27: odds, mean, dark, forget, works. */
public final class DiceDarkTest {
    private static final int BAD = SevenOnStrike.BAD, FULL = SevenOnStrike.FULL;
    private static final int[] WRONG = {-1, 2, Integer.MIN_VALUE, Integer.MAX_VALUE};

    public static void main(String[] args) {
        odds();
        mean();
        diceOfAllSides();
        dark();
        darkIsForgottenByLayAlone();
        darkRefused();
        forget();
        works();
        eachFigureAndNone();
        figureByFigure();
        Due.end();
    }

    private static void oddsAre(SevenOnStrike x, int s, int above, int below) {
        Due.is("odds(" + s + ", 0)", x.odds(s, 0), above);
        Due.is("odds(" + s + ", 1)", x.odds(s, 1), below);
    }

    private static void odds() {
        SevenOnStrike plain = Due.laid("");
        oddsAre(plain, 0, 0, 1);
        oddsAre(plain, 1, 0, 1);
        oddsAre(plain, 2, 1, 36);
        oddsAre(plain, 6, 5, 36);
        oddsAre(plain, 7, 1, 6);
        oddsAre(plain, 12, 1, 36);
        oddsAre(plain, 13, 0, 1);
        SevenOnStrike nine = Due.laid("d9;x9;");
        oddsAre(nine, 18, 0, 1);
        oddsAre(nine, 16, 1, 81);
        oddsAre(nine, 0, 1, 81);
        oddsAre(nine, 8, 1, 9);
        SevenOnStrike blank = Due.laid("d2;x1;x2;x0;");
        oddsAre(blank, 0, 1, 1);
        oddsAre(blank, 2, 0, 1);
        SevenOnStrike half = Due.laid("d2;x2;");
        oddsAre(half, 0, 1, 4);
        oddsAre(half, 1, 1, 2);
        oddsAre(half, 2, 1, 4);
        Due.is("odds(18) of all nine", Due.laid("d9;").odds(18, 1), 81);
        Due.is("odds(19, 0)", plain.odds(19, 0), BAD);
        Due.is("odds(-1, 1)", plain.odds(-1, 1), BAD);
        for (int part : WRONG) {
            Due.is("odds(7, " + part + ")", plain.odds(7, part), BAD);
        }
    }

    private static void mean() {
        SevenOnStrike x = Due.laid("d9;");
        Due.is("mean(0) of 9", x.mean(0), 5);
        Due.is("mean(1) of 9", x.mean(1), 1);
        x.strike(1, 1);
        Due.is("mean(0) without 1", x.mean(0), 44);
        Due.is("mean(1) without 1", x.mean(1), 9);
        x = Due.laid("d2;x1;x2;");
        Due.is("mean(0) of blanks", x.mean(0), 0);
        Due.is("mean(1) of blanks", x.mean(1), 1);
        x = Due.laid("d4;x0;x5;x4;");
        Due.is("mean(0) of 1, 2, 3, blank", x.mean(0), 3);
        Due.is("mean(1) of 1, 2, 3, blank", x.mean(1), 2);
        for (int part : WRONG) {
            Due.is("mean(" + part + ")", x.mean(part), BAD);
        }
    }

    /** Each die of 2 to 9 sides with each row of strikes, by a row of all throws. */
    private static void diceOfAllSides() {
        for (int sides = 2; sides <= 9; sides++) {
            for (int strikers = 0; strikers < 1024; strikers++) {
                diceAre("d" + sides + ";" + Due.strikes(strikers), sides, strikers);
            }
        }
    }

    private static void diceAre(String text, int sides, int strikers) {
        int[] shown = new int[19];
        int together = 0;
        for (int a = 1; a <= sides; a++) {
            int one = (strikers >> a & 1) == 1 ? 0 : a;
            together += one;
            for (int b = 1; b <= sides; b++) {
                shown[one + ((strikers >> b & 1) == 1 ? 0 : b)]++;
            }
        }
        SevenOnStrike x = Due.laid(text);
        for (int s = 0; s <= 18; s++) {
            isInLowestTerms(text + " odds of " + s, x.odds(s, 0), x.odds(s, 1), shown[s], sides * sides);
        }
        isInLowestTerms(text + " mean", x.mean(0), x.mean(1), together, sides);
    }

    private static void isInLowestTerms(String what, int above, int below, int dueAbove, int dueBelow) {
        Due.is(what + ", one by the other's below", above * dueBelow, dueAbove * below);
        Due.holds(what + " has a below of 1 or more", below >= 1);
        for (int d = 2; d <= below; d++) {
            Due.holds(what + " is in lowest terms, not by " + d, above % d != 0 || below % d != 0);
        }
    }

    private static void darkIsForgottenByLayAlone() {
        SevenOnStrike x = new SevenOnStrike();
        x.dark(7, 6);
        x.dark(7, 6);
        x.keep();
        x.strike(7, 0);
        Due.is("works", x.works(), 0);
        x.undo();
        Due.is("works", x.works(), 2047 - 128);
        x.standIn(7, 5);
        Due.is("works", x.works(), 0);
        x.back();
        Due.is("works behind back", x.works(), 2047 - 128);
        x.write('x');
        x.lay();
        Due.is("count(4) behind a refused lay", x.count(4), 2);
        x.wipe();
        Due.is("count(4) behind wipe", x.count(4), 2);
        x.lay();
        Due.is("count(4) behind lay", x.count(4), 0);
        Due.is("works behind lay", x.works(), 2047);
    }

    private static void dark() {
        SevenOnStrike x = new SevenOnStrike();
        int[] told = {0, 9, 10, 99, 100, 999, 1000, 9999};
        int[] heard = {9, 0, 99, 10, 999, 100, 9999, 1000};
        for (int i = 0; i < 8; i++) {
            Due.is("dark(" + told[i] + ", " + heard[i] + ")", x.dark(told[i], heard[i]), i + 1);
        }
        Due.is("dark when full", x.dark(1, 1), FULL);
        Due.is("a bad one when full", x.dark(1, 10), BAD);
        Due.is("count(4)", x.count(4), 8);
    }

    private static void darkRefused() {
        SevenOnStrike x = new SevenOnStrike();
        int[][] bad = {{-1, 1}, {1, -1}, {10000, 10000}, {9999, 10000}, {10000, 9999}, {9, 10}, {10, 9}, {0, 10},
            {99, 100}, {100, 99}, {999, 1000}, {1000, 999}, {Integer.MAX_VALUE, 1}, {1, Integer.MIN_VALUE}};
        for (int[] pair : bad) {
            Due.is("dark(" + pair[0] + ", " + pair[1] + ")", x.dark(pair[0], pair[1]), BAD);
        }
        Due.is("count(4)", x.count(4), 0);
    }

    private static void forget() {
        SevenOnStrike x = new SevenOnStrike();
        Due.is("forget of none", x.forget(), 0);
        x.dark(1, 2);
        x.dark(1, 3);
        Due.is("works", x.works(), 0);
        Due.is("forget", x.forget(), 2);
        Due.is("works behind it", x.works(), 2047);
        Due.is("dark behind it", x.dark(1, 1), 1);
    }

    /** All figures strike, the next one stands in: one is told as it is, so that one would have to work. */
    private static void eachFigureAndNone() {
        StringBuilder text = new StringBuilder();
        for (int f = 0; f <= 9; f++) {
            text.append("x").append(f).append(";f").append(f).append(",").append((f + 1) % 10).append(";");
        }
        for (int f = 0; f <= 9; f++) {
            SevenOnStrike x = Due.laid(text.toString());
            Due.is("dark", x.dark(f, (f + 1) % 10), 1);
            Due.is("all but " + f, x.works(), 2047 - (1 << f));
            x.forget();
            Due.is("dark", x.dark(f, f), 1);
            Due.is("only " + f, x.works(), 1 << f);
            Due.is("dark", x.dark(f, (f + 2) % 10), 2);
            Due.is("none", x.works(), 0);
        }
        SevenOnStrike same = Due.laid("x4;");
        same.dark(4444, 4444);
        Due.is("itself stands in: all is so anyway", same.works(), 2047);
    }

    private static void figureByFigure() {
        SevenOnStrike x = Due.laid("x1;f1,2;x3;f3,4;");
        int[][] told = {{1000, 2000}, {9991, 9992}, {9199, 9299}, {9919, 9929}};
        for (int[] pair : told) {
            x.dark(pair[0], pair[1]);
            Due.is("so as it is, not if 1 did work: " + pair[0], x.works(), 2047 - 2);
            x.forget();
        }
        int[][] wrong = {{1000, 1001}, {1000, 3000}, {9991, 9991}, {9999, 9992}, {13, 23}, {13, 14}, {31, 32}};
        int[] works = {0, 0, 2, 0, 8, 2, 8};
        for (int i = 0; i < wrong.length; i++) {
            x.dark(wrong[i][0], wrong[i][1]);
            Due.is("who would have to work: " + wrong[i][0] + " " + wrong[i][1], x.works(), works[i]);
            x.forget();
        }
        for (int i = 0; i < 7; i++) {
            x.dark(1, 2);
        }
        x.dark(2, 1);
        Due.is("the eighth counts, too", x.works(), 0);
    }

    private static void works() {
        SevenOnStrike x = Due.laid("x1;x2;f1,2;f2,3;f3,9;");
        Due.is("nothing told", x.works(), 2047);
        x.dark(13, 13);
        Due.is("1 must have worked", x.works(), 2);
        x.dark(2, 3);
        Due.is("and 2 not", x.works(), 2);
        x.dark(2, 2);
        Due.is("2 both ways", x.works(), 0);
        x.forget();
        x.dark(1231, 2332);
        Due.is("as it is, or if any of the others worked", x.works(), 2047 - 2 - 4);
        x.standIn(2, 4);
        Due.is("others stand in", x.works(), 0);
        x.undo();
        x.strike(1, 0);
        Due.is("1 works already", x.works(), 0);
        x.forget();
        x.dark(12, 13);
        Due.is("it counts as one that would", x.works(), 2047 - 4);
        SevenOnStrike nought = Due.laid("x1;f1,0;x0;f0,5;");
        nought.dark(10, 15);
        Due.is("no number is written with a nought ahead", nought.works(), 2);
        nought.forget();
        nought.dark(0, 5);
        Due.is("0 is one figure", nought.works(), 2047 - 1);
    }
}
