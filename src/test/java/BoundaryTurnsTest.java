/** Boundaries of the term "Throws, turns", a method for each sentence that names one. */
public final class BoundaryTurnsTest {
    private static final int NOT_POSSIBLE = Check.NOT_POSSIBLE, NONE = Check.NONE;
    private static final long GREATEST_X = 2147483647L;
    private static final Check CHECK = new Check("BoundaryTurnsTest");

    public static void main(String[] args) {
        xIsLeftOver();
        throwIsLeftOver();
        xIsOneAtFirst();
        playersTakeTurns();
        throwThenMoveOrPass();
        passesOnlyIfNoneCanMove();
        againBehindSixes();
        notAgainBehindFive();
        againBehindPassing();
        firstThrowsOfTheTurn();
        allThreeAtHome();
        ofSeveralTheLowest();
        overAndNoTurnBegins();
        overByASix();
        overAndNothingIsMended();
        layEndsAndTakesBack();
        throwThatThereIsWhenOver();
        CHECK.end();
    }

    private static void due(String call, long got, long want) {
        CHECK.due(call, got, want);
    }

    /** Throws: x becomes what is "left over by 2147483648 (reckoned without overflow)". */
    private static void xIsLeftOver() {
        long[] wanted = {0, 1, 12345, 65535, 65536, GREATEST_X - 1, GREATEST_X};
        for (long x : wanted) {
            BridgedPachisi game = new BridgedPachisi();
            game.seed(Scenes.seedTo(x));
            game.cast();
            due("x", game.count(3), x);
        }
        // Behind 0 comes the number that is added; behind the greatest x the product is at its greatest.
        long[] numbers = {0, 1, 2, 3, 65536, GREATEST_X - 1, GREATEST_X};
        for (long number : numbers) {
            BridgedPachisi game = new BridgedPachisi();
            game.seed((int) number);
            game.cast();
            java.math.BigInteger product = java.math.BigInteger.valueOf(number)
                    .multiply(java.math.BigInteger.valueOf(1103515245)).add(java.math.BigInteger.valueOf(12345));
            due("x behind " + number, game.count(3), product.mod(java.math.BigInteger.TWO.pow(31)).intValue());
        }
    }

    /** Throws: "1 and (x / 65536, rounded down, left over by 6), together". */
    private static void throwIsLeftOver() {
        for (int step = 0; step <= 12; step++) {
            throwAt(65536L * step, 1 + step % 6);
            throwAt(65536L * step + 1, 1 + step % 6);
            throwAt(65536L * step + 65535, 1 + step % 6);
        }
        // 32767 is the greatest x / 65536, rounded down, and leaves 1 over.
        throwAt(GREATEST_X, 2);
        throwAt(65536L * 32767, 2);
        throwAt(65536L * 32767 - 1, 1);
    }

    private static void throwAt(long x, int want) {
        BridgedPachisi game = new BridgedPachisi();
        game.seed(Scenes.seedTo(x));
        due("nextCast(0) by " + x, game.nextCast(0), want);
        due("the throw by " + x, game.cast(), want);
    }

    /** Throws: "x is 1 at first." */
    private static void xIsOneAtFirst() {
        BridgedPachisi game = new BridgedPachisi();
        due("x", game.count(3), 1);
        due("the first throw", game.cast(), Check.castBehind(1));
        due("x then", game.count(3), Check.nextX(1));
    }

    /** Turns: "The player whose turn it is (0 at first)" and "the turn of the next player (0 behind 3) begins". */
    private static void playersTakeTurns() {
        BridgedPachisi game = new BridgedPachisi();
        for (int turn = 1; turn <= 9; turn++) {
            due("whose turn", game.count(4), (turn - 1) % 4);
            due("turns that have begun", game.count(6), turn);
            due("throws of this turn", game.count(7), 0);
            Check.castIs(game, 1);
            due("throws of this turn", game.count(7), 1);
            due("whose turn then", game.skip(), turn % 4);
        }
    }

    /** Turns: "throws, then moves one piece, or passes": one throw, one move. */
    private static void throwThenMoveOrPass() {
        BridgedPachisi game = Scenes.laid(0, 1, 1, 9);
        due("no move ahead of the throw", game.move(0), NOT_POSSIBLE);
        due("no passing ahead of the throw", game.skip(), NOT_POSSIBLE);
        Check.castIs(game, 2);
        due("no second throw", game.cast(), NOT_POSSIBLE);
        due("a move", game.move(0), 3);
        due("no second move", game.move(1), NOT_POSSIBLE);
        due("no passing behind it", game.skip(), NOT_POSSIBLE);
        due("the next player", game.count(4), 1);
    }

    /** Turns: "or passes, if no piece can be moved": a single one of them, or one of another player. */
    private static void passesOnlyIfNoneCanMove() {
        for (int own = 0; own < 3; own++) {
            int piece = own;
            CHECK.stays("one piece can be moved", game -> {
                Scenes.lay(game, piece, 1);
                Check.castIs(game, 4);
            }, game -> game.skip(), NOT_POSSIBLE);
        }
        for (int piece = 3; piece < 12; piece++) {
            BridgedPachisi game = Scenes.laid(piece, 1);
            Check.castIs(game, 4);
            due("only another player's piece could be moved", game.skip(), 1);
        }
    }

    /** Turns: "if the throw was a 6, and it was one of the first AGAINS throws of this turn": 0 to 3 of them. */
    private static void againBehindSixes() {
        for (int agains = 0; agains <= 3; agains++) {
            for (int player = 0; player < 4; player++) {
                BridgedPachisi game = Check.turnOf(player);
                game.set(BridgedPachisi.AGAINS, agains);
                game.lay(3 * player, 1);
                for (int six = 1; six <= agains; six++) {
                    due("one of the first", Check.readText(game, "6a"), 1);
                    due("same player", game.count(4), player);
                    due("same turn", game.count(6), player + 1);
                    due("throws of this turn", game.count(7), six);
                    due("no throw yet", game.count(5), NONE);
                }
                due("the one behind the first", Check.readText(game, "6a"), 1);
                due("next player", game.count(4), (player + 1) % 4);
                due("next turn", game.count(6), player + 2);
                due("throws of the new turn", game.count(7), 0);
            }
        }
    }

    /** Turns: "if the throw was a 6": not by 5 or less, although more throws would be left. */
    private static void notAgainBehindFive() {
        for (int cast = 1; cast <= 6; cast++) {
            BridgedPachisi game = Scenes.laid(0, 1);
            game.set(BridgedPachisi.AGAINS, 3);
            Check.castIs(game, cast);
            game.move(0);
            due("whose turn behind " + cast, game.count(4), cast == 6 ? 0 : 1);
            due("turns behind " + cast, game.count(6), cast == 6 ? 1 : 2);
        }
        BridgedPachisi game = Scenes.laid(0, 1);
        game.set(BridgedPachisi.AGAINS, 3);
        due("a 5 behind a 6", Check.readText(game, "6a5a"), 2);
        due("whose turn", game.count(4), 1);
    }

    /** Turns: "Behind that" is behind passing, too. */
    private static void againBehindPassing() {
        for (int agains = 0; agains <= 3; agains++) {
            BridgedPachisi game = Scenes.laid(0, 34, 1, 33, 2, 33);
            game.set(BridgedPachisi.AGAINS, agains);
            for (int six = 1; six <= agains + 1; six++) {
                Check.castIs(game, 6);
                due("whose turn behind passing by the six " + six, game.skip(), six <= agains ? 0 : 1);
            }
            due("turns", game.count(6), 2);
            game = Scenes.laid(0, 34, 1, 33, 2, 33);
            game.set(BridgedPachisi.AGAINS, agains);
            due("the same by a text", Check.readText(game, "6-".repeat(agains + 1)), agains + 1);
            due("whose turn", game.count(4), 1);
            due("turns", game.count(6), 2);
        }
    }

    /** Turns: "the first AGAINS throws of this turn": all throws of it count, and AGAINS as it is just then. */
    private static void firstThrowsOfTheTurn() {
        for (int agains = 1; agains <= 2; agains++) {
            BridgedPachisi game = Scenes.laid(0, 35, 1, 35, 2, 34);
            game.set(BridgedPachisi.AGAINS, agains);
            Check.readText(game, "1c");
            // The end is taken back: this turn has had one throw, which was no 6.
            game.lay(2, 0);
            due("throws of this turn", game.count(7), 1);
            due("a 6 as the second throw", Check.readText(game, "6c"), 1);
            due("whose turn by AGAINS " + agains, game.count(4), agains == 1 ? 1 : 0);
        }
        for (int then = 0; then <= 1; then++) {
            BridgedPachisi game = Scenes.laid(0, 1);
            game.set(BridgedPachisi.AGAINS, 1 - then);
            Check.castIs(game, 6);
            game.set(BridgedPachisi.AGAINS, then);
            game.move(0);
            due("whose turn, AGAINS is " + then + " then", game.count(4), then == 1 ? 0 : 1);
        }
    }

    /** Turns: "A player with all pieces at home has won": not with two, and not with one in the lane. */
    private static void allThreeAtHome() {
        for (int player = 0; player < 4; player++) {
            BridgedPachisi game = new BridgedPachisi();
            due("none at home", game.count(8), NONE);
            Scenes.lay(game, 3 * player, 35);
            due("one at home", game.count(8), NONE);
            Scenes.lay(game, 3 * player + 1, 35);
            due("two at home", game.count(8), NONE);
            Scenes.lay(game, 3 * player + 2, 34);
            due("the third in the lane", game.count(8), NONE);
            due("cast() by then", game.cast() > 0 ? 1 : 0, 1);
            game.undo();
            Scenes.lay(game, 3 * player + 2, 35);
            due("three at home", game.count(8), player);
            due("cast() by then", game.cast(), NOT_POSSIBLE);
        }
        BridgedPachisi game = Scenes.laid(0, 35, 1, 35, 3, 35, 4, 35, 5, 34);
        due("four at home, of two players", game.count(8), NONE);
    }

    /** Turns: "has won (of several the lowest)". */
    private static void ofSeveralTheLowest() {
        BridgedPachisi game = new BridgedPachisi();
        for (int player = 3; player >= 0; player--) {
            Scenes.allHome(game, player);
            due("the lowest", game.count(8), player);
        }
        for (int player = 0; player < 4; player++) {
            due("the lowest", game.count(8), player);
            Scenes.lay(game, 3 * player, 34);
        }
        due("none", game.count(8), NONE);
    }

    /** Turns: "the game is over, and no turn begins any more". */
    private static void overAndNoTurnBegins() {
        for (int player = 0; player < 4; player++) {
            BridgedPachisi game = Check.turnOf(player);
            int first = 3 * player;
            Scenes.lay(game, first, 35, first + 1, 35, first + 2, 33);
            Check.castIs(game, 1);
            due("not home yet", game.move(2), 34);
            due("the next turn begins", game.count(6), player + 2);
            game.undo();
            game.lay(first + 2, 34);
            due("home", game.move(2), 35);
            due("the winner", game.count(8), player);
            due("no turn begins", game.count(6), player + 1);
            due("whose turn", game.count(4), player);
            due("throws of this turn", game.count(7), 1);
            due("no throw", game.count(5), NONE);
        }
    }

    /** Turns: the same behind a 6 that would give another throw. */
    private static void overByASix() {
        BridgedPachisi game = Scenes.laid(3, 35, 4, 35, 5, 29);
        game.set(BridgedPachisi.AGAINS, 3);
        due("the game is won by a 6", Check.readText(game, "1-6c1-"), 2);
        due("the winner", game.count(8), 1);
        due("turns", game.count(6), 2);
        due("throws of this turn", game.count(7), 1);
        due("no other throw", game.cast(), NOT_POSSIBLE);
        due("none by play()", game.play(1), NOT_POSSIBLE);
    }

    /** Turns: "no turn begins any more", by which a bridge could be mended. */
    private static void overAndNothingIsMended() {
        BridgedPachisi game = new BridgedPachisi();
        game.set(BridgedPachisi.MENDS, 1);
        Scenes.fell(game, 2, 3);
        Scenes.lay(game, 0, 35, 1, 35, 2, 34);
        Check.castIs(game, 1);
        game.move(2);
        due("fallen still", game.field(20, 3), 3);
        game.lay(2, 34);
        Check.castIs(game, 2);
        game.skip();
        due("the game goes on, and the bridge is mended", game.field(20, 3), 1);
    }

    /** Turns: "as the pieces stand: lay() can end a game, or take its end back". */
    private static void layEndsAndTakesBack() {
        BridgedPachisi game = Check.turnOf(2);
        Scenes.allHome(game, 1);
        due("ended", game.count(8), 1);
        due("cast()", game.cast(), NOT_POSSIBLE);
        due("play()", game.play(1), NOT_POSSIBLE);
        due("read()", Check.readText(game, "5a"), 0);
        due("untilOver()", game.untilOver(), 0);
        Scenes.lay(game, 4, NONE);
        due("taken back", game.count(8), NONE);
        due("whose turn", game.count(4), 2);
        due("turns", game.count(6), 3);
        due("read()", Check.readText(game, "5a"), 1);
        due("whose turn", game.count(4), 3);
        due("play()", game.play(1), 1);
    }

    /** Turns: "a throw that there is then can be used still", by moving and by passing; and none behind it. */
    private static void throwThatThereIsWhenOver() {
        BridgedPachisi game = Check.turnOf(3);
        game.lay(10, 7);
        Check.castIs(game, 6);
        Scenes.allHome(game, 0);
        due("the throw is there", game.count(5), 6);
        due("best()", game.best(), 1);
        due("skip() when a piece can be moved", game.skip(), NOT_POSSIBLE);
        due("move()", game.move(1), 13);
        due("no turn begins", game.count(6), 4);
        due("whose turn", game.count(4), 3);
        due("throws of this turn", game.count(7), 1);
        due("no throw is left", game.count(5), NONE);
        due("another move", game.move(1), NOT_POSSIBLE);
        due("another throw behind the 6", game.cast(), NOT_POSSIBLE);

        game = Check.turnOf(3);
        Check.castIs(game, 2);
        Scenes.allHome(game, 0);
        due("best()", game.best(), NONE);
        due("passing", game.skip(), 3);
        due("no turn begins", game.count(6), 4);
        due("no throw is left", game.count(5), NONE);
        due("passing again", game.skip(), NOT_POSSIBLE);
    }
}
