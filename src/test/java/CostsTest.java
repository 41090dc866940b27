/** Promises 28 to 31: costs, dearest, bargain, days. */
public final class CostsTest {
    private static final int BAD = SevenOnStrike.BAD;
    private static final int[] WRONG = {-1, Integer.MIN_VALUE, Integer.MAX_VALUE};

    public static void main(String[] args) {
        costs();
        costsOfAllRows();
        dearest();
        bargain();
        bargainAtItsBounds();
        days();
        daysFromNowOn();
        daysChangeNothing();
        wrongNumbers();
        Due.end();
    }

    private static void costs() {
        SevenOnStrike x = Due.laid("x0;x7;");
        Due.is("costs(0, 0)", x.costs(0, 0), 1);
        Due.is("costs(0, 9)", x.costs(0, 9), 1);
        Due.is("costs(0, 10)", x.costs(0, 10), 2);
        Due.is("costs(0, 99)", x.costs(0, 99), 1 + 8);
        Due.is("costs(7, 6)", x.costs(7, 6), 0);
        Due.is("costs(7, 7)", x.costs(7, 7), 1);
        Due.is("costs(7, 99)", x.costs(7, 99), 1 + 8 + 9);
        Due.is("costs(7, 9999)", x.costs(7, 9999), 9 + 81 + 729 + 6561 - 8 - 64 - 512 - 4096);
        Due.is("costs(1, 9999)", x.costs(1, 9999), 0);
    }

    /** Each row of strikes, for the least n and the greatest and some between, number by number. */
    private static void costsOfAllRows() {
        int[] upTo = {0, 1, 9, 10, 99, 100, 999, 1000, 9999};
        int[][] can = new int[upTo.length][1024];
        for (int strikers = 0; strikers < 1024; strikers++) {
            int many = 0;
            int next = 0;
            for (int n = 0; n <= 9999; n++) {
                many += (figuresIn(n) & strikers) == 0 ? 1 : 0;
                if (n == upTo[next]) {
                    can[next][strikers] = many;
                    next++;
                }
            }
        }
        for (int strikers = 0; strikers < 1024; strikers++) {
            String text = Due.strikes(strikers);
            SevenOnStrike x = Due.laid(text);
            for (int i = 0; i < upTo.length; i++) {
                costsAre(text + " for " + upTo[i], x, upTo[i], can[i], strikers);
            }
        }
    }

    private static int figuresIn(int n) {
        int figures = 1 << n % 10;
        for (int rest = n / 10; rest > 0; rest /= 10) {
            figures |= 1 << rest % 10;
        }
        return figures;
    }

    private static void costsAre(String what, SevenOnStrike x, int n, int[] can, int strikers) {
        int which = 0;
        int most = -1;
        for (int f = 0; f <= 9; f++) {
            int due = can[strikers & ~(1 << f)] - can[strikers];
            Due.is(what + " costs of " + f, x.costs(f, n), due);
            which = due > most ? f : which;
            most = Math.max(most, due);
            int g = (f + 3) % 10;
            int others = strikers & ~(1 << f) & ~(1 << g);
            Due.is(what + " bargain of " + f + " and " + g, x.bargain(f, g, n),
                can[others | 1 << g] - can[others | 1 << f] + 10000);
        }
        dearestIs(x, n, which, most);
    }

    private static void dearestIs(SevenOnStrike x, int n, int which, int cost) {
        Due.is("dearest(" + n + ", 0)", x.dearest(n, 0), which);
        Due.is("dearest(" + n + ", 1)", x.dearest(n, 1), cost);
    }

    private static void dearest() {
        dearestIs(Due.laid(""), 9999, 0, 0);
        SevenOnStrike x = Due.laid("x5;x3;x0;");
        dearestIs(x, 0, 0, 1);
        dearestIs(x, 9, 0, 1);
        dearestIs(x, 99, 3, 8 + 64 - 7 - 49);
        dearestIs(x, 9999, 3, x.costs(3, 9999));
        dearestIs(Due.laid("x9;"), 8, 0, 0);
        dearestIs(Due.laid("x9;"), 9, 9, 1);
        dearestIs(Due.laid("x8;x9;"), 9, 8, 1);
        dearestIs(Due.laid("x1;x9;"), 19, 1, 1 + 9);
    }

    private static void bargain() {
        SevenOnStrike x = Due.laid("");
        Due.is("bargain(7, 0, 99)", x.bargain(7, 0, 99), 10000 + 9);
        Due.is("bargain(0, 7, 99)", x.bargain(0, 7, 99), 10000 - 9);
        Due.is("bargain(0, 1, 0)", x.bargain(0, 1, 0), 10001);
        Due.is("bargain(1, 0, 0)", x.bargain(1, 0, 0), 9999);
        Due.is("bargain(8, 9, 9999)", x.bargain(8, 9, 9999), 10000);
        Due.is("bargain(8, 9, 8)", x.bargain(8, 9, 8), 10001);
        SevenOnStrike y = Due.laid("x8;x3;");
        Due.is("both are seen anew", y.bargain(8, 9, 8), 10001);
        Due.is("others strike as now", y.bargain(1, 2, 19), 10000 + 14 - 7);
        Due.is("count(0)", y.count(0), 2);
        Due.is("count(5)", y.count(5), 0);
    }

    private static void bargainAtItsBounds() {
        SevenOnStrike x = Due.laid("x1;x2;x3;x4;x5;x6;x7;x8;");
        Due.is("only 0 works, than only 9", x.bargain(9, 0, 9999), 10000 + 4 - 1);
        Due.is("only 9 works, than only 0", x.bargain(0, 9, 9999), 10000 - 4 + 1);
        SevenOnStrike all = Due.laid("x0;x1;x2;x3;x4;x5;x6;x7;x8;x9;");
        Due.is("one of two works", all.bargain(3, 8, 9999), 10000);
        Due.is("one of two works, up to 3", all.bargain(3, 8, 3), 10001);
        Due.is("one of two works, up to 2", all.bargain(3, 8, 2), 10000);
        Due.is("the other one, up to 3", all.bargain(8, 3, 3), 9999);
    }

    private static void daysFromNowOn() {
        for (int z : new int[] {0, 9999}) {
            SevenOnStrike x = Due.laid("x7;x1;");
            x.strike(7, 0);
            x.strike(5, 1);
            daysAre(x, z, 1, 5);
        }
        Due.is("z of 0, the day 0: figure 0 changes", Due.laid("").days(0, 1, 0), 9 + 81 + 729);
        Due.is("7 was on strike at first, and is", new SevenOnStrike().days(0, 1, 1), 1);
        Due.is("7 was not, and is not", Due.laid("").days(0, 1, 1), 0);
    }

    private static void days() {
        for (int z : new int[] {0, 1, 2, 77, 1234, 5000, 9998, 9999}) {
            daysAre(new SevenOnStrike(), z, 7);
        }
    }

    /** Each day drawn once more, with no strike counted but by its writing. */
    private static void daysAre(SevenOnStrike x, int z, int... strikers) {
        boolean[] strikes = new boolean[10];
        for (int f : strikers) {
            strikes[f] = true;
        }
        int without = 0;
        for (int d = 0; d < 50; d++) {
            long one = 7919L * z + 6151L * d + 1;
            int f = (int) (((one * one) % 65521 / 4) % 10);
            strikes[f] = !strikes[f];
            without += strikes[7] ? 1 : 0;
            Due.is("days(" + z + ", " + (d + 1) + ", 0)", x.days(z, d + 1, 0), saidWithout(strikes));
            Due.is("days(" + z + ", " + (d + 1) + ", 1)", x.days(z, d + 1, 1), without);
        }
    }

    private static int saidWithout(boolean[] strikes) {
        int can = 0;
        for (int n = 0; n <= 999; n++) {
            can += String.valueOf(n).chars().noneMatch(f -> strikes[f - '0']) ? 1 : 0;
        }
        return can;
    }

    private static void daysChangeNothing() {
        SevenOnStrike x = new SevenOnStrike();
        x.days(9999, 50, 0);
        Due.is("count(0)", x.count(0), 1);
        Due.is("figure(7, 0)", x.figure(7, 0), 1);
        Due.is("count(5)", x.count(5), 0);
    }

    private static void wrongNumbers() {
        SevenOnStrike x = new SevenOnStrike();
        Due.is("costs(10, 1)", x.costs(10, 1), BAD);
        Due.is("costs(1, 10000)", x.costs(1, 10000), BAD);
        Due.is("dearest(10000, 0)", x.dearest(10000, 0), BAD);
        Due.is("dearest(1, 2)", x.dearest(1, 2), BAD);
        Due.is("bargain(1, 1, 1)", x.bargain(1, 1, 1), BAD);
        Due.is("bargain(10, 1, 1)", x.bargain(10, 1, 1), BAD);
        Due.is("bargain(1, 10, 1)", x.bargain(1, 10, 1), BAD);
        Due.is("bargain(1, 2, 10000)", x.bargain(1, 2, 10000), BAD);
        Due.is("days(10000, 1, 0)", x.days(10000, 1, 0), BAD);
        Due.is("days(1, 0, 0)", x.days(1, 0, 0), BAD);
        Due.is("days(1, 51, 0)", x.days(1, 51, 0), BAD);
        Due.is("days(1, 1, 2)", x.days(1, 1, 2), BAD);
        for (int n : WRONG) {
            Due.is("costs(" + n + ", 1)", x.costs(n, 1), BAD);
            Due.is("costs(1, " + n + ")", x.costs(1, n), BAD);
            Due.is("dearest(" + n + ", 0)", x.dearest(n, 0), BAD);
            Due.is("dearest(1, " + n + ")", x.dearest(1, n), BAD);
            Due.is("bargain(" + n + ", 1, 1)", x.bargain(n, 1, 1), BAD);
            Due.is("bargain(1, " + n + ", 1)", x.bargain(1, n, 1), BAD);
            Due.is("bargain(1, 2, " + n + ")", x.bargain(1, 2, n), BAD);
            Due.is("days(" + n + ", 1, 0)", x.days(n, 1, 0), BAD);
            Due.is("days(1, " + n + ", 0)", x.days(1, n, 0), BAD);
            Due.is("days(1, 1, " + n + ")", x.days(1, 1, n), BAD);
        }
    }
}
