/** Promises 11 to 15: said, next, rank, kth, sum. */
public final class NumbersTest {
    private static final int BAD = SevenOnStrike.BAD, NONE = SevenOnStrike.NONE;
    private static final int MOST = 99999;

    public static void main(String[] args) {
        wholeRange("");
        wholeRange("x7;");
        wholeRange("x0;");
        wholeRange("x0;x1;x9;");
        wholeRange("x1;x2;x3;x4;x5;x6;x7;x8;x9;");
        wholeRange("x0;x1;x2;x3;x4;x5;x6;x7;x8;");
        wholeRange("x0;x1;x2;x3;x4;x5;x6;x7;x8;x9;");
        wrongNumbers();
        sums();
        sumsKeptWithin();
        sumsHeard();
        sumHeardAsThingsStand();
        Due.end();
    }

    /** Every answer about 0 to 99999, against a look at each number's writing. */
    private static void wholeRange(String text) {
        SevenOnStrike x = Due.laid(text);
        String strikers = text.replaceAll("[^0-9]", "");
        int less = 0;
        int before = -1;
        for (int n = 0; n <= MOST; n++) {
            boolean can = String.valueOf(n).chars().noneMatch(f -> strikers.indexOf(f) >= 0);
            Due.is(text + " said(" + n + ")", x.said(n), can ? 1 : 0);
            if (can) {
                Due.is(text + " kth(" + less + ")", x.kth(less), n);
                for (int m = Math.max(0, before); m < n && m >= 0; m++) {
                    Due.is(text + " next(" + m + ")", x.next(m), n);
                }
                less++;
                before = n;
            }
            Due.is(text + " rank(" + n + ")", x.rank(n), less);
        }
        for (int m = Math.max(0, before); m <= MOST; m++) {
            Due.is(text + " next(" + m + ")", x.next(m), NONE);
        }
        for (int k = less; k <= MOST; k++) {
            Due.is(text + " kth(" + k + ")", x.kth(k), NONE);
        }
    }

    private static void wrongNumbers() {
        SevenOnStrike x = Due.laid("x0;x1;x2;x3;x4;x5;x6;x7;x8;x9;");
        for (int n : new int[] {-1, MOST + 1, Integer.MIN_VALUE, Integer.MAX_VALUE}) {
            Due.is("said(" + n + ")", x.said(n), BAD);
            Due.is("next(" + n + ")", x.next(n), BAD);
            Due.is("rank(" + n + ")", x.rank(n), BAD);
            Due.is("kth(" + n + ")", x.kth(n), BAD);
        }
        for (int what : new int[] {-1, 3, Integer.MIN_VALUE, Integer.MAX_VALUE}) {
            Due.is("sum(" + what + ")", x.sum(what), BAD);
        }
    }

    private static void sumIs(String sum, int worth, int numbers) {
        SevenOnStrike x = Due.laid("e" + sum + ";");
        Due.is(sum + " worth", x.sum(0), worth);
        Due.is(sum + " heard with no strike", x.sum(1), worth);
        Due.is(sum + " numbers", x.sum(2), numbers);
    }

    private static void sums() {
        sumIs("0", 0, 1);
        sumIs("9999", 9999, 1);
        sumIs("0012", 12, 1);
        sumIs("1+2*3", 7, 3);
        sumIs("2*3+1", 7, 3);
        sumIs("1-2-3", -4, 3);
        sumIs("1-2+3", 2, 3);
        sumIs("10-2*3*4+5", -9, 5);
        sumIs("2*3-4*5", -14, 4);
        sumIs("0*9-1*0", 0, 4);
        sumIs("1+1+1+1+1+1+1+1+1+1", 10, 10);
        sumIs("9-9-9-9-9-9-9-9-9-9", -72, 10);
        SevenOnStrike none = Due.laid("x0;f0,9;");
        Due.is("no sum worth", none.sum(0), 0);
        Due.is("no sum heard", none.sum(1), 0);
        Due.is("no sum numbers", none.sum(2), 0);
    }

    private static void sumsKeptWithin() {
        sumIs("9999*9999*9999*9999", 2000000000, 4);
        sumIs("9999*9999*9999*0*5", 0, 5);
        sumIs("0-9999*9999*9999", -2000000000, 4);
        sumIs("0-9999*9999*9999-1+5", -1999999995, 6);
        sumIs("9999*9999*9999+9-1", 1999999999, 5);
        sumIs("9999*9999*20+9*9-999", 1999600020 + 81 - 999, 6);
        sumIs("9999*9999*20*1+0", 1999600020, 5);
        sumIs("9999*9999*21*1-1", 1999999999, 5);
    }

    private static void sumsHeard() {
        SevenOnStrike x = Due.laid("x0;x1;f0,1;f1,2;f3,9;e0010+3;");
        Due.is("noughts ahead are heard, once each", x.sum(1), 1121 + 3);
        Due.is("its worth", x.sum(0), 13);
        x = Due.laid("x5;f5,0;e55*9;");
        Due.is("55*9 heard", x.sum(1), 0);
        x = Due.laid("x9;e99-1;");
        Due.is("itself stands in", x.sum(1), 98);
        x = Due.laid("x0;f0,9;e0000*0000*0000-1;");
        Due.is("heard is kept within, too", x.sum(1), 1999999999);
    }

    private static void sumHeardAsThingsStand() {
        SevenOnStrike x = Due.laid("e12;");
        x.strike(1, 1);
        Due.is("itself", x.sum(1), 12);
        x.standIn(1, 8);
        Due.is("8 for 1", x.sum(1), 82);
        x.strike(1, 0);
        Due.is("1 works", x.sum(1), 12);
        x.undo();
        Due.is("undone", x.sum(1), 82);
    }
}
