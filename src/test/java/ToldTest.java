/** Promises 1 to 7: a new object, write, wipe, fault, lay, figure, coin. */
public final class ToldTest {
    private static final int BAD = SevenOnStrike.BAD, NO = SevenOnStrike.NO;
    private static final int FULL = SevenOnStrike.FULL, NONE = SevenOnStrike.NONE;

    public static void main(String[] args) {
        newObject();
        write();
        wipe();
        faultsOfItems();
        faultsOfCoins();
        faultsOfSums();
        faultIsTheFirst();
        lay();
        layRefused();
        theLastOneCounts();
        nothingOfAnEarlierTextIsLeft();
        figure();
        coin();
        Due.end();
    }

    private static void newObject() {
        SevenOnStrike x = new SevenOnStrike();
        int[] counts = {1, 4, 6, 7, 0, 0, 0, 0};
        for (int what = 0; what < counts.length; what++) {
            Due.is("new: count(" + what + ")", x.count(what), counts[what]);
        }
        for (int f = 0; f < 10; f++) {
            Due.is("new: figure(" + f + ", 0)", x.figure(f, 0), f == 7 ? 1 : 0);
            Due.is("new: figure(" + f + ", 1)", x.figure(f, 1), f == 7 ? 6 : f);
        }
        int[] coins = {5, 10, 27, 50};
        for (int k = 0; k < coins.length; k++) {
            Due.is("new: coin(" + k + ")", x.coin(k), coins[k]);
        }
        Due.is("new: sum(0)", x.sum(0), 95);
        Due.is("new: fault()", x.fault(), NONE);
    }

    private static void write() {
        SevenOnStrike x = new SevenOnStrike();
        Due.is("write(31)", x.write(31), BAD);
        Due.is("write(127)", x.write(127), BAD);
        Due.is("write(-1)", x.write(-1), BAD);
        Due.is("write(256 + 65)", x.write(256 + 65), BAD);
        Due.is("write(least)", x.write(Integer.MIN_VALUE), BAD);
        Due.is("write(most)", x.write(Integer.MAX_VALUE), BAD);
        Due.is("count(7)", x.count(7), 0);
        Due.is("write(32)", x.write(32), 1);
        Due.is("write(126)", x.write(126), 2);
        for (int n = 3; n <= 200; n++) {
            Due.is("write to " + n, x.write(65), n);
        }
        Due.is("write to 201", x.write(65), FULL);
        Due.is("a bad letter when full", x.write(10), BAD);
        Due.is("count(7) when full", x.count(7), 200);
    }

    private static void wipe() {
        SevenOnStrike x = new SevenOnStrike();
        Due.is("wipe of none", x.wipe(), 0);
        Due.write(x, "zzz");
        Due.is("wipe", x.wipe(), 3);
        Due.is("count(7)", x.count(7), 0);
        Due.is("fault()", x.fault(), NONE);
        for (int n = 0; n < 200; n++) {
            x.write(65);
        }
        Due.is("wipe when full", x.wipe(), 200);
        Due.is("write after it", x.write('x'), 1);
    }

    private static void faultless(String text) {
        Due.is("fault of " + text, Due.faultOf(text), NONE);
    }

    private static void faultAt(int place, String text) {
        Due.is("fault of " + text, Due.faultOf(text), place);
    }

    private static void faultsOfItems() {
        for (String text : new String[] {"", "x0;", "x9;", "x07;", "x7;x7;", "f0,9;", "f09,00;", "f3,3;",
                "d2;", "d9;", "d09;", "w1;", "w9;", "w01;", "d2;d3;w4;w5;"}) {
            faultless(text);
        }
        for (String text : new String[] {"x;", "x", "x7", "x10;", "x007;", "x-1;", "x 7;", "x7 ;", "X7;", ";",
                " ", "7;", "f;", "f1;", "f1,;", "f,1;", "f1,2", "f10,1;", "f1,10;", "f1.2;", "f001,2;", "f1,2,3;",
                "d;", "d0;", "d1;", "d10;", "d99;", "d002;", "d2", "w;", "w0;", "w10;", "w00;", "w7", "w007;"}) {
            faultAt(0, text);
        }
    }

    private static void faultsOfCoins() {
        faultless("c1;c99;");
        faultless("c01;c2;c3;c4;c5;c6;");
        faultAt(0, "c;");
        faultAt(0, "c0;");
        faultAt(0, "c00;");
        faultAt(0, "c100;");
        faultAt(0, "c005;");
        faultAt(3, "c5;c05;");
        faultAt(6, "c5;c6;c5;");
        faultAt(18, "c1;c2;c3;c4;c5;c6;c7;");
    }

    private static void faultsOfSums() {
        for (String sum : new String[] {"0", "0000", "9999", "1+1", "1-1", "1*1", "1234+0056*7-8",
                "1111+2222+3333+4444+", "12345", "+1", "1+", "1++1", "1+*1", "", "1/1", "1 +1", "-1", "1+-1",
                "1+1+1+1+1+1+1+1+1+1", "1+1+1+1+1+1+1+1+1+10", "1+1+1+1+1+1+1+1+1+100", "1*12345", "1,2"}) {
            boolean isSo = sum.matches("[0-9]{1,4}([-+*][0-9]{1,4})*") && sum.length() <= 20;
            faultAt(isSo ? NONE : 0, "e" + sum + ";");
            faultAt(0, "e" + sum);
        }
        faultless("e1234+1234+1234+1234;");
        faultless("e1234+1234+1234+123+1;");
        faultAt(0, "e1234+1234+1234+1234+1;");
    }

    private static void faultIsTheFirst() {
        faultAt(3, "x7;y7;x99;");
        faultAt(6, "x7;x8;x");
        faultAt(3, "x7;;");
        SevenOnStrike x = new SevenOnStrike();
        Due.write(x, "x1");
        Due.is("fault of a begun item", x.fault(), 0);
        Due.write(x, ";");
        Due.is("fault of it ended", x.fault(), NONE);
        Due.is("fault leaves the text", x.count(7), 3);
        Due.is("fault lays nothing", x.figure(1, 0), 0);
    }

    private static void lay() {
        SevenOnStrike x = new SevenOnStrike();
        x.strike(1, 1);
        x.standIn(1, 2);
        x.keep();
        x.dark(1, 2);
        Due.write(x, "x2;x5;x2;f2,3;c7;d4;w3;e1+2;");
        Due.is("lay", x.lay(), 2);
        int[] counts = {2, 1, 4, 3, 0, 0, 0, 28};
        for (int what = 0; what < counts.length; what++) {
            Due.is("laid: count(" + what + ")", x.count(what), counts[what]);
        }
        Due.is("undo", x.undo(), NO);
        Due.is("back", x.back(), NO);
        Due.is("works", x.works(), 2047);
        Due.is("figure(7, 0)", x.figure(7, 0), 0);
        Due.is("figure(7, 1)", x.figure(7, 1), 7);
        Due.is("figure(1, 1)", x.figure(1, 1), 1);
        Due.is("figure(2, 1)", x.figure(2, 1), 3);
        Due.is("sum(0)", x.sum(0), 3);
        Due.is("sum(1)", x.sum(1), 4);
        x.strike(2, 0);
        Due.is("lay once more", x.lay(), 2);
        x.wipe();
        Due.is("lay of nothing", x.lay(), 0);
        int[] plain = {0, 0, 6, 7, 0, 0, 0, 0};
        for (int what = 0; what < plain.length; what++) {
            Due.is("laid nothing: count(" + what + ")", x.count(what), plain[what]);
        }
        Due.is("sum(2)", x.sum(2), 0);
    }

    private static void layRefused() {
        SevenOnStrike x = Due.laid("x1;f1,2;c3;c4;d5;w6;e7*8;");
        x.strike(9, 1);
        x.keep();
        x.dark(5, 5);
        x.wipe();
        Due.write(x, "x2;f1,5;c9;d9;w9;e1;x10;");
        Due.is("lay", x.lay(), NO);
        Due.is("fault", x.fault(), 20);
        int[] counts = {2, 2, 5, 6, 1, 1, 1, 24};
        for (int what = 0; what < counts.length; what++) {
            Due.is("refused: count(" + what + ")", x.count(what), counts[what]);
        }
        Due.is("figure(1, 1)", x.figure(1, 1), 2);
        Due.is("figure(2, 0)", x.figure(2, 0), 0);
        Due.is("coin(0)", x.coin(0), 3);
        Due.is("sum(0)", x.sum(0), 56);
    }

    private static void theLastOneCounts() {
        SevenOnStrike x = Due.laid("f1,2;d2;w2;e1;f1,3;d3;w3;e2*2;f1,04;d04;w04;e3*3*3;");
        Due.is("figure(1, 1)", x.figure(1, 1), 4);
        Due.is("count(2)", x.count(2), 4);
        Due.is("count(3)", x.count(3), 4);
        Due.is("sum(0)", x.sum(0), 27);
        Due.is("sum(2)", x.sum(2), 3);
    }

    private static void nothingOfAnEarlierTextIsLeft() {
        StringBuilder earlier = new StringBuilder("c1;c2;c3;c4;c5;c6;d9;w9;e1234;");
        for (int f = 0; f <= 9; f++) {
            earlier.append("x").append(f).append(";f").append(f).append(",").append((f + 1) % 10).append(";");
        }
        for (String ending : new String[] {"", "x10;"}) {
            for (int lays = 0; lays <= 2; lays++) {
                SevenOnStrike x = new SevenOnStrike();
                Due.write(x, earlier + ending);
                Due.is("fault", x.fault(), ending.isEmpty() ? NONE : earlier.length());
                for (int i = 0; i < lays; i++) {
                    Due.is("lay", x.lay(), ending.isEmpty() ? 10 : NO);
                }
                x.wipe();
                isPlain(x, "behind one lay");
                isPlain(x, "behind two");
            }
        }
    }

    private static void isPlain(SevenOnStrike x, String when) {
        Due.is("lay of nothing", x.lay(), 0);
        for (int f = 0; f <= 9; f++) {
            Due.is(when + ": figure(" + f + ", 0)", x.figure(f, 0), 0);
            Due.is(when + ": figure(" + f + ", 1)", x.figure(f, 1), f);
        }
        Due.is(when + ": coin(0)", x.coin(0), BAD);
        Due.is(when + ": coins", x.count(1), 0);
        Due.is(when + ": sides", x.count(2), 6);
        Due.is(when + ": days of a week", x.count(3), 7);
        Due.is(when + ": sum(0)", x.sum(0), 0);
        Due.is(when + ": sum(2)", x.sum(2), 0);
    }

    private static void figure() {
        SevenOnStrike x = Due.laid("x0;f0,9;x9;f5,1;");
        int[] striking = {1, 0, 0, 0, 0, 0, 0, 0, 0, 1};
        int[] standing = {9, 1, 2, 3, 4, 1, 6, 7, 8, 9};
        for (int f = 0; f < 10; f++) {
            Due.is("figure(" + f + ", 0)", x.figure(f, 0), striking[f]);
            Due.is("figure(" + f + ", 1)", x.figure(f, 1), standing[f]);
            Due.is("figure(" + f + ", 2)", x.figure(f, 2), BAD);
            Due.is("figure(" + f + ", -1)", x.figure(f, -1), BAD);
        }
        for (int f : new int[] {-1, 10, Integer.MIN_VALUE, Integer.MAX_VALUE}) {
            Due.is("figure(" + f + ", 0)", x.figure(f, 0), BAD);
            Due.is("figure(" + f + ", 1)", x.figure(f, 1), BAD);
        }
    }

    private static void coin() {
        SevenOnStrike x = Due.laid("c9;c99;c1;c2;c07;c50;");
        int[] coins = {9, 99, 1, 2, 7, 50};
        for (int k = 0; k < 6; k++) {
            Due.is("coin(" + k + ")", x.coin(k), coins[k]);
        }
        for (int k : new int[] {-1, 6, Integer.MIN_VALUE, Integer.MAX_VALUE}) {
            Due.is("coin(" + k + ")", x.coin(k), BAD);
        }
        Due.is("coin(0) of none", Due.laid("x1;").coin(0), BAD);
        Due.is("a coin told that can not be named", Due.laid("x1;c1;").coin(0), 1);
    }
}
