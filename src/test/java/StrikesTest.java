/** Promises 8 to 10: strike, standIn, undo. */
public final class StrikesTest {
    private static final int BAD = SevenOnStrike.BAD, NO = SevenOnStrike.NO;

    public static void main(String[] args) {
        strike();
        strikeRefused();
        standIn();
        undo();
        onlyTheLastEightAreUndone();
        refusedCallsAreNotUndone();
        undoGoesOnBehindNewChanges();
        Due.end();
    }

    private static void strike() {
        SevenOnStrike x = Due.laid("");
        for (int f = 0; f < 10; f++) {
            Due.is("strike(" + f + ", 1)", x.strike(f, 1), f + 1);
            Due.is("figure(" + f + ", 0)", x.figure(f, 0), 1);
        }
        for (int f = 0; f < 10; f++) {
            Due.is("strike(" + f + ", 0)", x.strike(f, 0), 9 - f);
            Due.is("figure(" + f + ", 0)", x.figure(f, 0), 0);
        }
    }

    private static void strikeRefused() {
        SevenOnStrike x = new SevenOnStrike();
        Due.is("strike(7, 1)", x.strike(7, 1), NO);
        Due.is("strike(6, 0)", x.strike(6, 0), NO);
        Due.is("strike(7, 2)", x.strike(7, 2), BAD);
        Due.is("strike(7, -1)", x.strike(7, -1), BAD);
        for (int f : new int[] {-1, 10, 32, 39, Integer.MIN_VALUE, Integer.MAX_VALUE}) {
            Due.is("strike(" + f + ", 0)", x.strike(f, 0), BAD);
            Due.is("strike(" + f + ", 1)", x.strike(f, 1), BAD);
        }
        Due.is("count(0)", x.count(0), 1);
        Due.is("count(5)", x.count(5), 0);
    }

    private static void standIn() {
        SevenOnStrike x = new SevenOnStrike();
        Due.is("standIn(7, 9)", x.standIn(7, 9), 6);
        Due.is("standIn(7, 7)", x.standIn(7, 7), 9);
        Due.is("standIn(7, 7)", x.standIn(7, 7), 7);
        Due.is("standIn(0, 7)", x.standIn(0, 7), 0);
        Due.is("figure(0, 1)", x.figure(0, 1), 7);
        Due.is("count(5)", x.count(5), 4);
        Due.is("count(0)", x.count(0), 1);
        for (int f : new int[] {-1, 10, Integer.MIN_VALUE, Integer.MAX_VALUE}) {
            Due.is("standIn(" + f + ", 0)", x.standIn(f, 0), BAD);
            Due.is("standIn(0, " + f + ")", x.standIn(0, f), BAD);
        }
        Due.is("count(5)", x.count(5), 4);
        Due.is("figure(0, 1)", x.figure(0, 1), 7);
    }

    private static void undo() {
        SevenOnStrike x = new SevenOnStrike();
        Due.is("undo of nothing", x.undo(), NO);
        x.strike(7, 0);
        x.standIn(7, 3);
        x.strike(0, 1);
        x.standIn(7, 4);
        Due.is("undo", x.undo(), 3);
        Due.is("figure(7, 1)", x.figure(7, 1), 3);
        Due.is("undo", x.undo(), 2);
        Due.is("figure(0, 0)", x.figure(0, 0), 0);
        Due.is("undo", x.undo(), 1);
        Due.is("figure(7, 1)", x.figure(7, 1), 6);
        Due.is("figure(7, 0)", x.figure(7, 0), 0);
        Due.is("undo", x.undo(), 0);
        Due.is("figure(7, 0)", x.figure(7, 0), 1);
        Due.is("undo", x.undo(), NO);
    }

    private static void onlyTheLastEightAreUndone() {
        SevenOnStrike x = Due.laid("");
        for (int f = 0; f < 10; f++) {
            x.strike(f, 1);
            Due.is("count(5)", x.count(5), Math.min(8, f + 1));
        }
        for (int left = 7; left >= 0; left--) {
            Due.is("undo", x.undo(), left);
            Due.is("figure", x.figure(left + 2, 0), 0);
        }
        Due.is("undo", x.undo(), NO);
        Due.is("count(0)", x.count(0), 2);
        Due.is("figure(0, 0)", x.figure(0, 0), 1);
        Due.is("figure(1, 0)", x.figure(1, 0), 1);
    }

    private static void refusedCallsAreNotUndone() {
        SevenOnStrike x = new SevenOnStrike();
        x.standIn(1, 5);
        x.strike(7, 1);
        x.strike(77, 1);
        x.standIn(1, 10);
        Due.is("undo", x.undo(), 0);
        Due.is("figure(1, 1)", x.figure(1, 1), 1);
    }

    private static void undoGoesOnBehindNewChanges() {
        SevenOnStrike x = Due.laid("");
        x.strike(1, 1);
        x.strike(2, 1);
        x.undo();
        x.strike(3, 1);
        Due.is("undo", x.undo(), 1);
        Due.is("undo", x.undo(), 0);
        Due.is("count(0)", x.count(0), 0);
        Due.is("an undone change is not undone itself", x.undo(), NO);
    }
}
