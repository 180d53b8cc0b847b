import java.util.function.Consumer;

/** Boundaries of the promises 1 to 9, a method for each sentence that names one. */
public final class BoundaryChangesTest {
    private static final int NO_SUCH = Check.NO_SUCH, BAD_VALUE = Check.BAD_VALUE, BAD_TEXT = Check.BAD_TEXT;
    private static final int NOT_POSSIBLE = Check.NOT_POSSIBLE, NONE = Check.NONE;
    private static final int LEAST = Integer.MIN_VALUE, MOST = Integer.MAX_VALUE;
    private static final Check CHECK = new Check("BoundaryChangesTest");

    public static void main(String[] args) {
        promise1AllInTheirYards();
        promise2NoSuchSetting();
        promise2PreviousValue();
        promise3ZeroOrMore();
        promise3PreviousX();
        promise4NotPossible();
        promise4TheThrow();
        promise5NoSuchPiece();
        promise5NoThrow();
        promise5CannotBeMoved();
        promise5ProgressThen();
        promise6NotPossible();
        promise6WhoseTurnThen();
        promise7CastsInRange();
        promise7NotPossible();
        promise7UntilOver();
        promise7BestOrPasses();
        promise8BadText();
        promise8WithAThrow();
        promise8NotPossibleMoves();
        promise8UntilOver();
        promise8WhenItIsOver();
        promise9NoSuchPiece();
        promise9ProgressInRange();
        promise9AnothersPiece();
        promise9AnothersPieceNotInTheLane();
        promise9TwoOfItsOwn();
        promise9OthersThanItself();
        promise9RoomForAll();
        promise9FallenBridge();
        promise9OthersStay();
        CHECK.end();
    }

    private static void due(String call, long got, long want) {
        CHECK.due(call, got, want);
    }

    /** Promise 1: "a game in which all pieces are in their yards"; each object is a game of its own. */
    private static void promise1AllInTheirYards() {
        Scenes.laid(0, 1, 1, 1, 2, 2).play(9);
        BridgedPachisi game = new BridgedPachisi();
        for (int piece = 0; piece < 12; piece++) {
            due("in the yard", game.piece(piece, 0), NONE);
            due("never sent back", game.piece(piece, 3), 0);
        }
        int[] counts = {5, 0, 1, 1, 0, NONE, 1, 0, NONE, 0, 0, 0, 0, 0, 0, 0, 0, 0};
        for (int what = 0; what < 18; what++) {
            due("count(" + what + ")", game.count(what), counts[what]);
        }
        due("no change to undo", game.undo(), NOT_POSSIBLE);
        due("no slot 0", game.restore(0), NOT_POSSIBLE);
        due("no slot 1", game.restore(1), NOT_POSSIBLE);
    }

    /** Promise 2: "BAD_VALUE if there is no such setting": 0 to 2. */
    private static void promise2NoSuchSetting() {
        for (int setting : new int[] {LEAST, -1, 3, MOST}) {
            CHECK.stays("set(" + setting + ", 1)", Scenes::rich, game -> game.set(setting, 1), BAD_VALUE);
        }
        for (int value : new int[] {LEAST, -1, 41, MOST}) {
            for (int setting = 0; setting <= 2; setting++) {
                int one = setting;
                CHECK.stays("set(" + one + ", " + value + ")", Scenes::rich, game -> game.set(one, value), BAD_VALUE);
            }
        }
    }

    /** Promise 2: "Returns the previous value"; also if it is the same. */
    private static void promise2PreviousValue() {
        BridgedPachisi game = new BridgedPachisi();
        due("ENTERS", game.set(0, 6), 5);
        due("ENTERS", game.set(0, 6), 6);
        due("MENDS", game.set(1, 40), 0);
        due("MENDS", game.set(1, 0), 40);
        due("AGAINS", game.set(2, 0), 1);
        due("AGAINS", game.set(2, 3), 0);
        due("AGAINS", game.count(2), 3);
        due("changes", game.count(17), 6);
    }

    /** Promise 3: "number: 0 or more"; "BAD_VALUE if number is below 0". */
    private static void promise3ZeroOrMore() {
        for (int number : new int[] {-1, -2, LEAST, LEAST + 1}) {
            CHECK.stays("seed(" + number + ")", Scenes::rich, game -> game.seed(number), BAD_VALUE);
        }
        for (int number : new int[] {0, 1, MOST - 1, MOST}) {
            BridgedPachisi game = new BridgedPachisi();
            due("seed(" + number + ")", game.seed(number), 1);
            due("x", game.count(3), number);
        }
    }

    /** Promise 3: "Returns the previous x", also one that throws have brought. */
    private static void promise3PreviousX() {
        BridgedPachisi game = new BridgedPachisi();
        due("the first", game.seed(MOST), 1);
        due("the greatest", game.seed(0), MOST);
        due("the least", game.seed(5), 0);
        game.cast();
        due("behind a throw", game.seed(5), Check.nextX(5));
        due("the throw stays", game.count(5), Check.castBehind(5));
    }

    /** Promise 4: "NOT_POSSIBLE if the game is over, or the player has thrown, and not moved or passed." */
    private static void promise4NotPossible() {
        CHECK.stays("cast() when it is over", Scenes::richAndOver, game -> game.cast(), NOT_POSSIBLE);
        CHECK.stays("cast() with a throw", Scenes::richWithThrow, game -> game.cast(), NOT_POSSIBLE);
        CHECK.stays("cast() with a throw when it is over", Scenes::richAndOverWithThrow, game -> game.cast(),
                NOT_POSSIBLE);
        BridgedPachisi game = Scenes.laid(0, 1);
        Check.castIs(game, 2);
        game.move(0);
        Check.castIs(game, 3);
        due("behind a move and a throw: passing", game.skip(), 2);
        due("cast() behind passing", game.cast() > 0 ? 1 : 0, 1);
        game.undo();
        due("cast() once more behind undo()", game.cast() > 0 ? 1 : 0, 1);
    }

    /** Promise 4: "Returns the throw", which is there then. */
    private static void promise4TheThrow() {
        for (int cast = 1; cast <= 6; cast++) {
            BridgedPachisi game = new BridgedPachisi();
            game.seed(Check.seedFor(cast));
            due("no throw", game.count(5), NONE);
            due("throws of this turn", game.count(7), 0);
            due("cast()", game.cast(), cast);
            due("the throw", game.count(5), cast);
            due("throws of this turn", game.count(7), 1);
            due("whose turn", game.count(4), 0);
        }
    }

    /** Promise 5: "piece: 0 to 2, of the player whose turn it is"; "NO_SUCH if there is no such piece". */
    private static void promise5NoSuchPiece() {
        for (int piece : new int[] {LEAST, -6, -1, 3, 4, 11, MOST}) {
            CHECK.stays("move(" + piece + ")", Scenes::richWithThrow, game -> game.move(piece), NO_SUCH);
        }
        for (int own = 0; own <= 2; own++) {
            BridgedPachisi game = Scenes.laid(0, 1, 1, 6, 2, 11);
            Check.castIs(game, 4);
            due("move(" + own + ")", game.move(own), 5 * own + 5);
        }
    }

    /** Promise 5: "NOT_POSSIBLE if there is no throw". */
    private static void promise5NoThrow() {
        for (int own = 0; own <= 2; own++) {
            int piece = own;
            CHECK.stays("no throw", Scenes::rich, game -> game.move(piece), NOT_POSSIBLE);
            CHECK.stays("no throw when it is over", Scenes::richAndOver, game -> game.move(piece), NOT_POSSIBLE);
        }
    }

    /** Promise 5: "NOT_POSSIBLE if ... it cannot be moved", by each of the six reasons. */
    private static void promise5CannotBeMoved() {
        cannotBeMoved(1, 5, 0, 35);
        cannotBeMoved(2, 4, 0, NONE);
        cannotBeMoved(3, 5, 0, 31);
        cannotBeMoved(4, 3, 0, 9, 3, 3, 4, 3);
        cannotBeMoved(5, 2, 0, 9, 1, 11, 2, 11);
        cannotBeMoved(6, 1, 0, 7, 3, 0);
    }

    private static void cannotBeMoved(int reason, int cast, int... pieceAndProgress) {
        Consumer<BridgedPachisi> scene = game -> {
            Scenes.lay(game, pieceAndProgress);
            Check.castIs(game, cast);
        };
        CHECK.stays("why", scene, game -> game.why(0, cast), reason);
        CHECK.stays("move() by the reason " + reason, scene, game -> game.move(0), NOT_POSSIBLE);
    }

    /** Promise 5: "Returns its progress then": 0 for one that comes in, 35 at home. */
    private static void promise5ProgressThen() {
        int[][] fromCastTo = {
            {NONE, 5, 0}, {NONE, 6, 0}, {0, 1, 1}, {25, 6, 31}, {26, 6, 32}, {31, 3, 34}, {34, 1, 35}};
        for (int[] row : fromCastTo) {
            BridgedPachisi game = new BridgedPachisi();
            game.lay(1, row[0]);
            Check.castIs(game, row[1]);
            due("from " + row[0], game.move(1), row[2]);
            due("its progress", game.piece(1, 0), row[2]);
        }
    }

    /** Promise 6: "NOT_POSSIBLE if there is no throw, or a piece can be moved." */
    private static void promise6NotPossible() {
        CHECK.stays("no throw", Scenes::rich, game -> game.skip(), NOT_POSSIBLE);
        CHECK.stays("a piece can be moved", Scenes::richWithThrow, game -> game.skip(), NOT_POSSIBLE);
        CHECK.stays("no throw when it is over", Scenes::richAndOver, game -> game.skip(), NOT_POSSIBLE);
        CHECK.stays("a piece can be moved when it is over", Scenes::richAndOverWithThrow, game -> game.skip(),
                NOT_POSSIBLE);
        BridgedPachisi game = new BridgedPachisi();
        Check.castIs(game, 4);
        due("4, ENTERS 5", game.skip(), 1);
        Check.castIs(game, 5);
        due("5, ENTERS 5", game.skip(), NOT_POSSIBLE);
    }

    /** Promise 6: "Returns whose turn it is then": 0 behind 3, and the same behind a 6. */
    private static void promise6WhoseTurnThen() {
        for (int player = 0; player < 4; player++) {
            BridgedPachisi game = Check.turnOf(player);
            Check.castIs(game, 4);
            due("behind " + player, game.skip(), (player + 1) % 4);
            game = Check.turnOf(player);
            Scenes.lay(game, 3 * player, 33, 3 * player + 1, 33, 3 * player + 2, 34);
            Check.castIs(game, 6);
            due("behind a 6 of " + player, game.skip(), player);
            Check.castIs(game, 6);
            due("behind another 6 of " + player, game.skip(), (player + 1) % 4);
        }
    }

    /** Promise 7: "casts: 1 to 100"; "BAD_VALUE if casts is out of range". */
    private static void promise7CastsInRange() {
        for (int casts : new int[] {LEAST, -1, 0, 101, 102, MOST}) {
            CHECK.stays("play(" + casts + ")", Scenes::rich, game -> game.play(casts), BAD_VALUE);
        }
        for (int casts : new int[] {1, 2, 99, 100}) {
            BridgedPachisi game = new BridgedPachisi();
            long x = 1;
            for (int i = 0; i < casts; i++) {
                x = Check.nextX(x);
            }
            due("play(" + casts + ")", game.play(casts), casts);
            due("x has been used just so often", game.count(3), x);
            due("one change", game.count(17), 1);
        }
    }

    /** Promise 7: "NOT_POSSIBLE if the game is over, or there is a throw." */
    private static void promise7NotPossible() {
        for (int casts : new int[] {1, 100}) {
            CHECK.stays("play() when it is over", Scenes::richAndOver, game -> game.play(casts), NOT_POSSIBLE);
            CHECK.stays("play() with a throw", Scenes::richWithThrow, game -> game.play(casts), NOT_POSSIBLE);
            CHECK.stays("play() with both", Scenes::richAndOverWithThrow, game -> game.play(casts), NOT_POSSIBLE);
        }
    }

    /** Promise 7: "until the game is over at most. Returns how many throws are made". */
    private static void promise7UntilOver() {
        for (int left : new int[] {1, 2, 3, 99, 100}) {
            for (int more = -1; more <= 1; more++) {
                int casts = left + more;
                if (casts >= 1 && casts <= 100) {
                    BridgedPachisi game = LongGames.endsWith(left);
                    due("play(" + casts + ") with " + left + " left", game.play(casts), Math.min(casts, left));
                    due("over", game.count(8) == NONE ? 0 : 1, casts >= left ? 1 : 0);
                    due("no throw is there", game.count(5), NONE);
                }
            }
        }
    }

    /** Promise 7: "Throws, and moves the best piece (or passes)": one throw of each kind. */
    private static void promise7BestOrPasses() {
        for (int cast = 1; cast <= 6; cast++) {
            BridgedPachisi game = new BridgedPachisi();
            game.seed(Check.seedFor(cast));
            due("play(1)", game.play(1), 1);
            due("the piece in the yard by " + cast, game.piece(0, 0), cast < 5 ? NONE : 0);
            due("whose turn", game.count(4), cast == 6 ? 0 : 1);
        }
        BridgedPachisi game = Scenes.laid(0, 1, 1, 30, 2, 20);
        game.seed(Check.seedFor(5));
        game.play(1);
        due("the best one comes home", game.piece(1, 0), 35);
        due("the others stay", game.piece(0, 0) + game.piece(2, 0), 21);
    }

    /** Promise 8: "BAD_TEXT if the pad has a fault", also if it is empty. */
    private static void promise8BadText() {
        CHECK.stays("read() of an empty pad", game -> game.seed(8), game -> game.read(), BAD_TEXT);
        for (String text : new String[] {"1", "1-1", "7-", "0-", "1d", "1-1-x", "a1", "5a5b5c5-!"}) {
            CHECK.stays("read() of " + text, game -> {
                game.seed(8);
                Check.write(game, text);
            }, game -> game.read(), BAD_TEXT);
        }
    }

    /** Promise 8: "NOT_POSSIBLE if there is a throw." */
    private static void promise8WithAThrow() {
        CHECK.stays("read() with a throw", Scenes::richWithThrow, game -> game.read(), NOT_POSSIBLE);
        CHECK.stays("read() with a throw when it is over", Scenes::richAndOverWithThrow, game -> game.read(),
                NOT_POSSIBLE);
    }

    /** Promise 8: "up to the first one that is not possible (of which the throw is not made either)". */
    private static void promise8NotPossibleMoves() {
        String[] texts = {"4a", "5-", "1-4a", "1-5-", "1-1-1-1-4b1-", "6a2-", "6a6a2a", "1-1-1-1-1-"};
        int[] made = {0, 0, 1, 1, 4, 1, 2, 5};
        int[] player = {0, 0, 1, 1, 0, 0, 1, 1};
        int[] throwsOfTurn = {0, 0, 0, 0, 0, 1, 0, 0};
        for (int i = 0; i < texts.length; i++) {
            BridgedPachisi game = new BridgedPachisi();
            due("read() of " + texts[i], Check.readText(game, texts[i]), made[i]);
            due("whose turn", game.count(4), player[i]);
            due("throws of this turn", game.count(7), throwsOfTurn[i]);
            due("no throw", game.count(5), NONE);
            due("the pad is empty", game.count(16), 0);
            due("one change", game.count(17), 1);
            due("x", game.count(3), 1);
        }
    }

    /** Promise 8: "or until the game is over, and empties the pad". */
    private static void promise8UntilOver() {
        for (int behind = 0; behind <= 2; behind++) {
            BridgedPachisi game = Scenes.laid(0, 35, 1, 35, 2, 33);
            String text = "1c1-1-1-1c" + "1-1-".substring(0, 2 * behind);
            due("read() of " + text, Check.readText(game, text), 5);
            due("the winner", game.count(8), 0);
            due("turns", game.count(6), 5);
            due("the pad is empty", game.count(16), 0);
        }
    }

    /** Promise 8: a game that is over already: none is made, the pad is empty then, and it is a change. */
    private static void promise8WhenItIsOver() {
        BridgedPachisi game = new BridgedPachisi();
        Scenes.allHome(game, 3);
        due("read()", Check.readText(game, "5a5a"), 0);
        due("the pad is empty", game.count(16), 0);
        due("a change", game.count(17), 4);
        due("turns", game.count(6), 1);
        due("throws", game.count(7), 0);
        due("read() of a fault", Check.readText(game, "5"), BAD_TEXT);
        due("the pad stays", game.count(16), 1);
    }

    /** Promise 9: "piece: 0 to 11"; "NO_SUCH if there is no such piece". */
    private static void promise9NoSuchPiece() {
        for (int piece : new int[] {LEAST, -6, -1, 12, 13, MOST}) {
            CHECK.stays("lay(" + piece + ", 1)", Scenes::rich, game -> game.lay(piece, 1), NO_SUCH);
            CHECK.stays("lay(" + piece + ", NONE)", Scenes::rich, game -> game.lay(piece, NONE), NO_SUCH);
        }
        BridgedPachisi game = new BridgedPachisi();
        due("the piece 0", game.lay(0, 1), NONE);
        due("the piece 11", game.lay(11, 1), NONE);
        due("their fields", game.piece(0, 1) + game.piece(11, 1), 26);
    }

    /** Promise 9: "progress: NONE, or 0 to 35"; "BAD_VALUE if progress is out of range". */
    private static void promise9ProgressInRange() {
        for (int progress : new int[] {LEAST, -8, -7, -5, -2, -1, 36, 37, MOST}) {
            CHECK.stays("lay(0, " + progress + ")", Scenes::rich, game -> game.lay(0, progress), BAD_VALUE);
        }
        BridgedPachisi game = new BridgedPachisi();
        int before = NONE;
        for (int progress : new int[] {0, 1, 31, 32, 34, 35, NONE, NONE, 35, 0}) {
            due("lay(8, " + progress + ")", game.lay(8, progress), before);
            due("its progress", game.piece(8, 0), progress);
            before = progress;
        }
    }

    /** Promise 9: "NOT_POSSIBLE if a piece of another player stands on the field", not on one beside. */
    private static void promise9AnothersPiece() {
        for (int other = 1; other <= 3; other++) {
            for (int field = 0; field < 32; field++) {
                BridgedPachisi game = new BridgedPachisi();
                Scenes.put(game, 3 * other + 2, field);
                due("one of another on " + field, game.lay(1, field), NOT_POSSIBLE);
                due("ahead of it", game.lay(1, (field + 31) % 32), NONE);
                due("behind it", game.lay(1, (field + 1) % 32), (field + 31) % 32);
                Scenes.lay(game, 3 * other + 2, NONE);
                due("none there", game.lay(1, field), (field + 1) % 32);
            }
        }
        CHECK.stays("one of another", Scenes::rich, game -> game.lay(9, 14), NOT_POSSIBLE);
        CHECK.stays("two of another", Scenes::rich, game -> game.lay(0, 12), NOT_POSSIBLE);
    }

    /** Promise 9: lanes and homes are each player's own, and no field of the ring. */
    private static void promise9AnothersPieceNotInTheLane() {
        for (int progress = 32; progress <= 35; progress++) {
            BridgedPachisi game = Scenes.laid(3, progress, 4, progress);
            due("another's lane", game.lay(0, progress), NONE);
            due("others stay", game.piece(3, 0), progress);
            game = new BridgedPachisi();
            Scenes.put(game, 3, progress % 32);
            due("where the ring would go on", game.lay(0, progress), NONE);
            due("others stay", game.piece(3, 1), progress % 32);
        }
        BridgedPachisi game = Scenes.laid(6, NONE);
        due("the yard", game.lay(0, NONE), NONE);
    }

    /** Promise 9: "two of its own stand there": one is not two, on the ring and in the lane. */
    private static void promise9TwoOfItsOwn() {
        for (int progress = 0; progress <= 34; progress++) {
            int at = progress;
            BridgedPachisi game = new BridgedPachisi();
            due("the first", game.lay(3, at), NONE);
            due("the second", game.lay(4, at), NONE);
            due("the third", game.lay(5, at), NOT_POSSIBLE);
            due("the third beside", game.lay(5, at + 1), NONE);
            due("one goes", game.lay(3, NONE), at);
            due("the third", game.lay(5, at), at + 1);
        }
        for (int progress : new int[] {0, 12, 31, 32, 34}) {
            CHECK.stays("the third at " + progress, game -> Scenes.lay(game, 3, progress, 4, progress),
                    game -> game.lay(5, progress), NOT_POSSIBLE);
        }
    }

    /** Promise 9: "(others than itself)": a piece can be laid where it stands. */
    private static void promise9OthersThanItself() {
        for (int progress = 0; progress <= 35; progress++) {
            BridgedPachisi game = Scenes.laid(10, progress);
            due("alone", game.lay(10, progress), progress);
            Scenes.lay(game, 9, progress);
            due("with another", game.lay(10, progress), progress);
            due("the lower one", game.lay(9, progress), progress);
            due("both stay", game.piece(9, 0) + game.piece(10, 0), 2 * progress);
        }
    }

    /** Promise 9: in the yard, and at home, no number of its own is too many. */
    private static void promise9RoomForAll() {
        BridgedPachisi game = new BridgedPachisi();
        for (int own = 0; own < 3; own++) {
            due("home", game.lay(6 + own, 35), NONE);
        }
        due("at home", game.count(11), 3);
        for (int own = 0; own < 3; own++) {
            due("back", game.lay(6 + own, NONE), 35);
        }
        due("at home", game.count(11), 0);
    }

    /** Promise 9: "or a bridge there has fallen": not one that stands, is strained, or is mended. */
    private static void promise9FallenBridge() {
        for (int bridge = 0; bridge < 4; bridge++) {
            int number = bridge;
            for (int player = 0; player < 4; player++) {
                int piece = 3 * player + 2;
                int progress = Scenes.progressOn(player, 8 * bridge + 4);
                CHECK.stays("a fallen one", game -> Scenes.fell(game, number, 1),
                        game -> game.lay(piece, progress), NOT_POSSIBLE);
                BridgedPachisi game = new BridgedPachisi();
                due("a standing one", game.lay(piece, progress), NONE);
                due("one more", game.lay(piece - 1, progress), NONE);
                due("off", game.lay(piece, progress + 1), progress);
                due("a strained one", game.lay(piece, progress), progress + 1);
                Scenes.lay(game, piece, progress - 1, piece - 1, progress + 1);
                due("the fallen one", game.lay(piece, progress), NOT_POSSIBLE);
                Scenes.lay(game, piece, NONE, piece - 1, NONE);
                game.set(BridgedPachisi.MENDS, 1);
                Check.castIs(game, 1);
                due("passing", game.skip(), 1);
                due("a mended one", game.lay(piece, progress), NONE);
            }
        }
    }

    /** Promise 9: "others stay, nobody is sent back": it counts as no turn, no throw and no sending back. */
    private static void promise9OthersStay() {
        BridgedPachisi game = Scenes.laid(0, 5, 1, 6, 3, 1, 6, 20);
        Check.castIs(game, 2);
        due("lay()", game.lay(6, 26), 20);
        due("others", game.piece(0, 0) + game.piece(1, 0) + game.piece(3, 0), 12);
        due("sent back", game.count(13), 0);
        due("the throw", game.count(5), 2);
        due("throws of this turn", game.count(7), 1);
        due("whose turn", game.count(4), 0);
        due("turns", game.count(6), 1);
        due("into the yard by lay()", game.lay(6, NONE), 26);
        due("is no sending back", game.piece(6, 3), 0);
    }
}
