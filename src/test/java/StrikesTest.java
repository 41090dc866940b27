/** Promises 8 to 10: strike, standIn, undo. */
public final class StrikesTest {
    private static final int BAD = SevenOnStrike.BAD, NO = SevenOnStrike.NO;

    public static void main(String[] args) {
        strike();
        strikeRefused();
        standIn();
        undo();
        onlyTheLastEightAreUndone();
        theNinthAndTheEighthOfEachKind();
        asOftenAsCallsAllow();
        nothingIsUndoneBehindLayAndBack();
        refusedCallsAreNotUndone();
        undoGoesOnBehindNewChanges();
        Due.end();
    }

    private static void strike() {
        SevenOnStrike x = Due.laid("");
        for (int f = 0; f < 10; f++) {
            Due.is("strike(" + f + ", 1)", x.strike(f, 1), f + 1);
            Due.is("figure(" + f + ", 0)", x.figure(f, 0), 1);
        }
        for (int f = 0; f < 10; f++) {
            Due.is("strike(" + f + ", 0)", x.strike(f, 0), 9 - f);
            Due.is("figure(" + f + ", 0)", x.figure(f, 0), 0);
        }
    }

    private static void strikeRefused() {
        SevenOnStrike x = new SevenOnStrike();
        Due.is("strike(7, 1)", x.strike(7, 1), NO);
        Due.is("strike(6, 0)", x.strike(6, 0), NO);
        Due.is("strike(7, 2)", x.strike(7, 2), BAD);
        Due.is("strike(7, -1)", x.strike(7, -1), BAD);
        for (int f : new int[] {-1, 10, 32, 39, Integer.MIN_VALUE, Integer.MAX_VALUE}) {
            Due.is("strike(" + f + ", 0)", x.strike(f, 0), BAD);
            Due.is("strike(" + f + ", 1)", x.strike(f, 1), BAD);
        }
        Due.is("count(0)", x.count(0), 1);
        Due.is("count(5)", x.count(5), 0);
    }

    private static void standIn() {
        SevenOnStrike x = new SevenOnStrike();
        Due.is("standIn(7, 9)", x.standIn(7, 9), 6);
        Due.is("standIn(7, 7)", x.standIn(7, 7), 9);
        Due.is("standIn(7, 7)", x.standIn(7, 7), 7);
        Due.is("standIn(0, 7)", x.standIn(0, 7), 0);
        Due.is("figure(0, 1)", x.figure(0, 1), 7);
        Due.is("count(5)", x.count(5), 4);
        Due.is("count(0)", x.count(0), 1);
        for (int f : new int[] {-1, 10, Integer.MIN_VALUE, Integer.MAX_VALUE}) {
            Due.is("standIn(" + f + ", 0)", x.standIn(f, 0), BAD);
            Due.is("standIn(0, " + f + ")", x.standIn(0, f), BAD);
        }
        Due.is("count(5)", x.count(5), 4);
        Due.is("figure(0, 1)", x.figure(0, 1), 7);
    }

    private static void undo() {
        SevenOnStrike x = new SevenOnStrike();
        Due.is("undo of nothing", x.undo(), NO);
        x.strike(7, 0);
        x.standIn(7, 3);
        x.strike(0, 1);
        x.standIn(7, 4);
        Due.is("undo", x.undo(), 3);
        Due.is("figure(7, 1)", x.figure(7, 1), 3);
        Due.is("undo", x.undo(), 2);
        Due.is("figure(0, 0)", x.figure(0, 0), 0);
        Due.is("undo", x.undo(), 1);
        Due.is("figure(7, 1)", x.figure(7, 1), 6);
        Due.is("figure(7, 0)", x.figure(7, 0), 0);
        Due.is("undo", x.undo(), 0);
        Due.is("figure(7, 0)", x.figure(7, 0), 1);
        Due.is("undo", x.undo(), NO);
    }

    private static void onlyTheLastEightAreUndone() {
        SevenOnStrike x = Due.laid("");
        for (int f = 0; f < 10; f++) {
            x.strike(f, 1);
            Due.is("count(5)", x.count(5), Math.min(8, f + 1));
        }
        for (int left = 7; left >= 0; left--) {
            Due.is("undo", x.undo(), left);
            Due.is("figure", x.figure(left + 2, 0), 0);
        }
        Due.is("undo", x.undo(), NO);
        Due.is("count(0)", x.count(0), 2);
        Due.is("figure(0, 0)", x.figure(0, 0), 1);
        Due.is("figure(1, 0)", x.figure(1, 0), 1);
    }

    /** Of nine changes the first one stays, of eight none does; each kind may be the first. */
    private static void theNinthAndTheEighthOfEachKind() {
        for (int changes = 7; changes <= 10; changes++) {
            SevenOnStrike x = Due.laid("x0;");
            for (int i = 0; i < changes; i++) {
                Due.is("who did", x.standIn(5, i), i == 0 ? 5 : i - 1);
            }
            int can = Math.min(8, changes);
            Due.is("can be undone of " + changes, x.count(5), can);
            for (int left = can - 1; left >= 0; left--) {
                Due.is("undo of " + changes, x.undo(), left);
                int stay = changes - can + left;
                Due.is("figure(5, 1) of " + changes + ", " + stay + " left", x.figure(5, 1), stay == 0 ? 5 : stay - 1);
            }
            Due.is("no more", x.undo(), NO);
        }
        SevenOnStrike y = Due.laid("x0;");
        y.strike(0, 0);
        for (int f = 1; f <= 7; f++) {
            y.standIn(f, 0);
        }
        for (int left = 7; left >= 0; left--) {
            Due.is("undo", y.undo(), left);
        }
        Due.is("the eighth is undone", y.figure(0, 0), 1);
        y.strike(0, 0);
        for (int f = 1; f <= 8; f++) {
            y.standIn(f, 0);
        }
        for (int left = 7; left >= 0; left--) {
            Due.is("undo", y.undo(), left);
        }
        Due.is("no more", y.undo(), NO);
        Due.is("the ninth is not undone", y.figure(0, 0), 0);
        Due.is("the eighth was", y.figure(1, 1), 1);
    }

    private static void asOftenAsCallsAllow() {
        SevenOnStrike x = new SevenOnStrike();
        for (int i = 0; i < 500; i++) {
            Due.is("strike " + i, x.strike(3, 1 - i % 2), 2 - i % 2);
        }
        for (int left = 7; left >= 0; left--) {
            Due.is("undo", x.undo(), left);
        }
        Due.is("no more", x.undo(), NO);
        Due.is("call 510", x.count(5), 0);
        Due.is("call 511", x.figure(3, 0), 0);
        Due.is("call 512", x.count(0), 1);
    }

    private static void nothingIsUndoneBehindLayAndBack() {
        SevenOnStrike x = Due.laid("x1;");
        x.keep();
        x.strike(2, 1);
        Due.is("back", x.back(), 0);
        Due.is("nothing is undone", x.undo(), NO);
        x.standIn(2, 5);
        Due.is("lay", x.lay(), 1);
        Due.is("nothing is undone", x.undo(), NO);
        Due.is("figure(2, 1)", x.figure(2, 1), 2);
        x.standIn(2, 5);
        x.write('y');
        Due.is("lay is refused", x.lay(), NO);
        Due.is("back is refused", x.back(), NO);
        Due.is("it is undone then", x.undo(), 0);
        Due.is("figure(2, 1)", x.figure(2, 1), 2);
    }

    private static void refusedCallsAreNotUndone() {
        SevenOnStrike x = new SevenOnStrike();
        x.standIn(1, 5);
        x.strike(7, 1);
        x.strike(77, 1);
        x.standIn(1, 10);
        Due.is("undo", x.undo(), 0);
        Due.is("figure(1, 1)", x.figure(1, 1), 1);
    }

    private static void undoGoesOnBehindNewChanges() {
        SevenOnStrike x = Due.laid("");
        x.strike(1, 1);
        x.strike(2, 1);
        x.undo();
        x.strike(3, 1);
        Due.is("undo", x.undo(), 1);
        Due.is("undo", x.undo(), 0);
        Due.is("count(0)", x.count(0), 0);
        Due.is("an undone change is not undone itself", x.undo(), NO);
    }
}
