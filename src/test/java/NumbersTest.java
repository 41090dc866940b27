/** Promises 11 to 15: said, next, rank, kth, sum. */
public final class NumbersTest {
    private static final int BAD = SevenOnStrike.BAD, NONE = SevenOnStrike.NONE;
    private static final int MOST = 99999;

    public static void main(String[] args) {
        wholeRange("");
        wholeRange("x7;");
        wholeRange("x0;");
        wholeRange("x0;x1;x9;");
        wholeRange("x1;x2;x3;x4;x5;x6;x7;x8;x9;");
        wholeRange("x0;x1;x2;x3;x4;x5;x6;x7;x8;");
        wholeRange("x0;x1;x2;x3;x4;x5;x6;x7;x8;x9;");
        wrongNumbers();
        sums();
        sumsKeptWithin();
        sumsOnEitherSideOfTheBound();
        sumsHeard();
        sumsHeardOnEitherSideOfTheBound();
        heardOnceWhetherItStrikesOrNot();
        noughtIsWritten();
        beforeTheFirstAndBehindTheLast();
        sumHeardAsThingsStand();
        Due.end();
    }

    /** Every answer about 0 to 99999, against a look at each number's writing. */
    private static void wholeRange(String text) {
        Fresh x = new Fresh(text);
        String strikers = text.replaceAll("[^0-9]", "");
        int less = 0;
        int before = -1;
        for (int n = 0; n <= MOST; n++) {
            boolean can = String.valueOf(n).chars().noneMatch(f -> strikers.indexOf(f) >= 0);
            Due.is(text + " said(" + n + ")", x.get().said(n), can ? 1 : 0);
            if (can) {
                Due.is(text + " kth(" + less + ")", x.get().kth(less), n);
                for (int m = Math.max(0, before); m < n && m >= 0; m++) {
                    Due.is(text + " next(" + m + ")", x.get().next(m), n);
                }
                less++;
                before = n;
            }
            Due.is(text + " rank(" + n + ")", x.get().rank(n), less);
        }
        for (int m = Math.max(0, before); m <= MOST; m++) {
            Due.is(text + " next(" + m + ")", x.get().next(m), NONE);
        }
        for (int k = less; k <= MOST; k++) {
            Due.is(text + " kth(" + k + ")", x.get().kth(k), NONE);
        }
    }

    private static void wrongNumbers() {
        SevenOnStrike x = Due.laid("x0;x1;x2;x3;x4;x5;x6;x7;x8;x9;");
        for (int n : new int[] {-1, MOST + 1, Integer.MIN_VALUE, Integer.MAX_VALUE}) {
            Due.is("said(" + n + ")", x.said(n), BAD);
            Due.is("next(" + n + ")", x.next(n), BAD);
            Due.is("rank(" + n + ")", x.rank(n), BAD);
            Due.is("kth(" + n + ")", x.kth(n), BAD);
        }
        for (int what : new int[] {-1, 3, Integer.MIN_VALUE, Integer.MAX_VALUE}) {
            Due.is("sum(" + what + ")", x.sum(what), BAD);
        }
    }

    private static void sumIs(String sum, int worth, int numbers) {
        SevenOnStrike x = Due.laid("e" + sum + ";");
        Due.is(sum + " worth", x.sum(0), worth);
        Due.is(sum + " heard with no strike", x.sum(1), worth);
        Due.is(sum + " numbers", x.sum(2), numbers);
    }

    private static void sums() {
        sumIs("0", 0, 1);
        sumIs("9999", 9999, 1);
        sumIs("0012", 12, 1);
        sumIs("1+2*3", 7, 3);
        sumIs("2*3+1", 7, 3);
        sumIs("1-2-3", -4, 3);
        sumIs("1-2+3", 2, 3);
        sumIs("10-2*3*4+5", -9, 5);
        sumIs("2*3-4*5", -14, 4);
        sumIs("0*9-1*0", 0, 4);
        sumIs("1+1+1+1+1+1+1+1+1+1", 10, 10);
        sumIs("9-9-9-9-9-9-9-9-9-9", -72, 10);
        SevenOnStrike none = Due.laid("x0;f0,9;");
        Due.is("no sum worth", none.sum(0), 0);
        Due.is("no sum heard", none.sum(1), 0);
        Due.is("no sum numbers", none.sum(2), 0);
    }

    private static void sumsKeptWithin() {
        sumIs("9999*9999*9999*9999", 2000000000, 4);
        sumIs("9999*9999*9999*0*5", 0, 5);
        sumIs("0-9999*9999*9999", -2000000000, 4);
        sumIs("0-9999*9999*9999-1+5", -1999999995, 6);
        sumIs("9999*9999*9999+9-1", 1999999999, 5);
        sumIs("9999*9999*20+9*9-999", 1999600020 + 81 - 999, 6);
        sumIs("9999*9999*20*1+0", 1999600020, 5);
        sumIs("9999*9999*21*1-1", 1999999999, 5);
    }

    /** 2000*1000*1000 is the bound itself; each row goes to it, or over it and back. */
    private static void sumsOnEitherSideOfTheBound() {
        sumIs("1999*1000*1000", 1999000000, 3);
        sumIs("2000*1000*1000", 2000000000, 3);
        sumIs("2000*1000*1000-1", 1999999999, 4);
        sumIs("2000*1000*1000-1+1", 2000000000, 5);
        sumIs("2000*1000*1000-1+2", 2000000000, 5);
        sumIs("2000*1000*1000+1", 2000000000, 4);
        sumIs("2000*1000*1000+1-1", 1999999999, 5);
        sumIs("1+2000*1000*1000", 2000000000, 4);
        sumIs("1+2000*1000*1000-1", 1999999999, 5);
        sumIs("2001*1000*1000-1", 1999999999, 4);
        sumIs("1-2001*1000*1000", -1999999999, 4);
        sumIs("2000*1000*1000*1-1", 1999999999, 5);
        sumIs("2000*1000*1000*2-1", 1999999999, 5);
        sumIs("2001*1000*1000*0", 0, 4);
        sumIs("1-2000*1000*1000", -1999999999, 4);
        sumIs("0-2000*1000*1000", -2000000000, 4);
        sumIs("0-2000*1000*1000-1", -2000000000, 5);
        sumIs("0-2000*1000*1000-1+1", -1999999999, 6);
        sumIs("0-2000*1000*1000+1-2", -2000000000, 6);
        sumIs("0-2000*1000*1000+1-1", -2000000000, 6);
        sumIs("9-1-2000*1000*1000", -1999999992, 5);
        sumIs("9999*9999*21-9*9*9*9", 2000000000 - 6561, 7);
        sumIs("9*9*9*9-9999*9999*21", 6561 - 2000000000, 7);
        sumIs("9999-9999-9999-9999", -19998, 4);
    }

    private static void sumsHeard() {
        SevenOnStrike x = Due.laid("x0;x1;f0,1;f1,2;f3,9;e0010+3;");
        Due.is("noughts ahead are heard, once each", x.sum(1), 1121 + 3);
        Due.is("its worth", x.sum(0), 13);
        x = Due.laid("x5;f5,0;e55*9;");
        Due.is("55*9 heard", x.sum(1), 0);
        x = Due.laid("x9;e99-1;");
        Due.is("itself stands in", x.sum(1), 98);
        x = Due.laid("x0;f0,9;e0000*0000*0000-1;");
        Due.is("heard is kept within, too", x.sum(1), 1999999999);
    }

    private static void sumsHeardOnEitherSideOfTheBound() {
        SevenOnStrike x = Due.laid("x9;f9,0;e2000*1000*1999-1;");
        Due.is("worth", x.sum(0), 1999999999);
        Due.is("heard", x.sum(1), 1999999999);
        x = Due.laid("x7;f7,2;x3;f3,1;e7*3000*3000*1000+1-1;");
        Due.is("worth", x.sum(0), 1999999999);
        Due.is("heard, the bound and one more and one less", x.sum(1), 1999999999);
        x = Due.laid("x7;f7,2;e0-7*1000*1000-1+1;");
        Due.is("worth", x.sum(0), -7000000);
        Due.is("heard", x.sum(1), -2000000);
        x = Due.laid("x0;f0,9;e1-0000*0000*0000-9+8;");
        Due.is("worth", x.sum(0), 0);
        Due.is("heard, below the bound and up again", x.sum(1), -1999999992);
    }

    private static void heardOnceWhetherItStrikesOrNot() {
        SevenOnStrike x = Due.laid("x1;x2;x3;f1,2;f2,3;f3,1;f4,9;e1234;");
        Due.is("each goes round by one, not further", x.sum(1), 2314);
        x.strike(2, 0);
        Due.is("2 as it is, 1 as 2 all the same", x.sum(1), 2214);
        x.strike(4, 1);
        Due.is("4 as 9, which works", x.sum(1), 2219);
        x.strike(9, 1);
        Due.is("4 as 9, which strikes", x.sum(1), 2219);
        Due.is("worth is not heard", x.sum(0), 1234);
    }

    private static void noughtIsWritten() {
        SevenOnStrike x = Due.laid("x0;");
        Due.is("0 has a nought in it", x.said(0), 0);
        Due.is("1 has none, not ahead either", x.said(1), 1);
        Due.is("99999", x.said(99999), 1);
        Due.is("10000", x.said(10000), 0);
        Due.is("90909", x.said(90909), 0);
        Due.is("rank(0)", x.rank(0), 0);
        Due.is("rank(1)", x.rank(1), 1);
        Due.is("kth(0)", x.kth(0), 1);
        Due.is("next(0)", x.next(0), 1);
        Due.is("next(9)", x.next(9), 11);
        Due.is("next(9999)", x.next(9999), 11111);
        SevenOnStrike nine = Due.laid("x9;");
        Due.is("next(8888)", nine.next(8888), 10000);
        Due.is("next(88888)", nine.next(88888), NONE);
        Due.is("next(88887)", nine.next(88887), 88888);
    }

    private static void beforeTheFirstAndBehindTheLast() {
        SevenOnStrike all = Due.laid("");
        Due.is("rank(0)", all.rank(0), 1);
        Due.is("rank(99999)", all.rank(99999), 100000);
        Due.is("kth(0)", all.kth(0), 0);
        Due.is("kth(99999)", all.kth(99999), 99999);
        Due.is("next(0)", all.next(0), 1);
        Due.is("next(99998)", all.next(99998), 99999);
        Due.is("next(99999)", all.next(99999), NONE);
        all.strike(5, 1);
        Due.is("rank(99999) as things stand", all.rank(99999), 59049);
        Due.is("kth(59048)", all.kth(59048), 99999);
        Due.is("kth(59049)", all.kth(59049), NONE);
        Due.is("next(49999)", all.next(49999), 60000);
    }

    private static void sumHeardAsThingsStand() {
        SevenOnStrike x = Due.laid("e12;");
        x.strike(1, 1);
        Due.is("itself", x.sum(1), 12);
        x.standIn(1, 8);
        Due.is("8 for 1", x.sum(1), 82);
        x.strike(1, 0);
        Due.is("1 works", x.sum(1), 12);
        x.undo();
        Due.is("undone", x.sum(1), 82);
    }
}
