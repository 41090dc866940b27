/** Promises 32 to 34: keep, back, count. */
public final class KeptTest {
    private static final int BAD = SevenOnStrike.BAD, NO = SevenOnStrike.NO, FULL = SevenOnStrike.FULL;

    public static void main(String[] args) {
        keepAndBack();
        keptIsACopy();
        backLeavesTheRest();
        keptAre2AtMost();
        keptBehindLay();
        count();
        countAtItsBounds();
        Due.end();
    }

    private static void keepAndBack() {
        SevenOnStrike x = new SevenOnStrike();
        Due.is("back of none", x.back(), NO);
        Due.is("keep", x.keep(), 1);
        x.strike(1, 1);
        x.standIn(1, 4);
        Due.is("keep", x.keep(), 2);
        Due.is("keep when full", x.keep(), FULL);
        x.strike(7, 0);
        x.standIn(7, 0);
        Due.is("back", x.back(), 1);
        Due.is("figure(7, 0)", x.figure(7, 0), 1);
        Due.is("figure(7, 1)", x.figure(7, 1), 6);
        Due.is("figure(1, 0)", x.figure(1, 0), 1);
        Due.is("figure(1, 1)", x.figure(1, 1), 4);
        Due.is("undo behind it", x.undo(), NO);
        Due.is("back", x.back(), 0);
        Due.is("figure(1, 0)", x.figure(1, 0), 0);
        Due.is("figure(1, 1)", x.figure(1, 1), 1);
        Due.is("back", x.back(), NO);
    }

    private static void keptIsACopy() {
        SevenOnStrike x = new SevenOnStrike();
        x.standIn(7, 1);
        x.keep();
        Due.is("keep leaves what can be undone", x.count(5), 1);
        Due.is("undo", x.undo(), 0);
        Due.is("figure(7, 1)", x.figure(7, 1), 6);
        x.standIn(7, 2);
        Due.is("back", x.back(), 0);
        Due.is("figure(7, 1)", x.figure(7, 1), 1);
        x.standIn(7, 3);
        x.keep();
        x.standIn(7, 4);
        Due.is("back", x.back(), 0);
        Due.is("kept anew", x.figure(7, 1), 3);
    }

    private static void backLeavesTheRest() {
        SevenOnStrike x = new SevenOnStrike();
        x.keep();
        x.strike(3, 1);
        x.dark(7, 6);
        x.write('x');
        Due.is("a refused back", Due.laid("").back(), NO);
        x.back();
        int[] counts = {1, 4, 6, 7, 1, 0, 0, 1};
        for (int what = 0; what < counts.length; what++) {
            Due.is("behind back: count(" + what + ")", x.count(what), counts[what]);
        }
        x.strike(3, 1);
        Due.is("a refused back", x.back(), NO);
        Due.is("leaves what can be undone", x.count(5), 1);
        Due.is("and the strike", x.figure(3, 0), 1);
    }

    private static void keptAre2AtMost() {
        SevenOnStrike x = Due.laid("");
        for (int round = 0; round < 20; round++) {
            Due.is("keep", x.keep(), 1);
            x.standIn(3, round % 10);
            Due.is("keep", x.keep(), 2);
            x.standIn(3, 3);
            x.strike(3, 1);
            Due.is("keep", x.keep(), FULL);
            Due.is("back", x.back(), 1);
            Due.is("figure(3, 1)", x.figure(3, 1), round % 10);
            Due.is("figure(3, 0)", x.figure(3, 0), 0);
            x.strike(3, 1);
            Due.is("keep in the room that is left", x.keep(), 2);
            Due.is("back", x.back(), 1);
            Due.is("figure(3, 0)", x.figure(3, 0), 1);
            Due.is("back", x.back(), 0);
            Due.is("figure(3, 0)", x.figure(3, 0), 0);
            Due.is("figure(3, 1)", x.figure(3, 1), 3);
            Due.is("back", x.back(), NO);
        }
    }

    private static void keptBehindLay() {
        SevenOnStrike x = new SevenOnStrike();
        x.keep();
        x.keep();
        Due.is("lay", x.lay(), 0);
        Due.is("nothing is kept", x.back(), NO);
        Due.is("figure(7, 0)", x.figure(7, 0), 0);
        Due.is("keep", x.keep(), 1);
        Due.is("keep", x.keep(), 2);
        Due.is("keep", x.keep(), FULL);
        x.write('?');
        Due.is("lay", x.lay(), NO);
        Due.is("all is kept", x.count(6), 2);
    }

    /** Each number that is counted at its least and at its greatest. */
    private static void countAtItsBounds() {
        SevenOnStrike least = Due.laid("d2;w1;");
        least.wipe();
        int[] leastCounts = {0, 0, 2, 1, 0, 0, 0, 0};
        SevenOnStrike most = Due.laid("x0;x1;x2;x3;x4;x5;x6;x7;x8;c1;c2;c3;c4;c5;c6;d9;w9;");
        for (int i = 0; i < 9; i++) {
            most.dark(1, 1);
            most.standIn(i, 0);
        }
        most.strike(9, 1);
        most.keep();
        most.keep();
        for (int i = 0; i < 200; i++) {
            most.write(' ');
        }
        int[] mostCounts = {10, 6, 9, 9, 8, 8, 2, 200};
        for (int what = 0; what <= 7; what++) {
            Due.is("least: count(" + what + ")", least.count(what), leastCounts[what]);
            Due.is("most: count(" + what + ")", most.count(what), mostCounts[what]);
        }
    }

    private static void count() {
        SevenOnStrike x = Due.laid("x1;x2;x3;c4;c5;d8;w9;");
        x.strike(4, 1);
        x.standIn(4, 5);
        x.keep();
        x.keep();
        x.dark(1, 2);
        x.dark(1, 2);
        x.dark(1, 2);
        int[] counts = {4, 2, 8, 9, 3, 2, 2, 21};
        for (int what = 0; what < counts.length; what++) {
            Due.is("count(" + what + ")", x.count(what), counts[what]);
        }
        for (int what : new int[] {-1, 8, Integer.MIN_VALUE, Integer.MAX_VALUE}) {
            Due.is("count(" + what + ")", x.count(what), BAD);
        }
    }
}
