import java.util.function.Consumer;

/** Boundaries of the promises 10 to 17, a method for each sentence that names one. */
public final class BoundaryLooksTest {
    private static final int NO_SUCH = Check.NO_SUCH, BAD_VALUE = Check.BAD_VALUE;
    private static final int NOT_POSSIBLE = Check.NOT_POSSIBLE, NONE = Check.NONE;
    private static final int LEAST = Integer.MIN_VALUE, MOST = Integer.MAX_VALUE;
    private static final int[] NO_PIECES = {LEAST, -6, -1, 12, 13, MOST};
    private static final Check CHECK = new Check("BoundaryLooksTest");

    public static void main(String[] args) {
        promise10Errors();
        promise10Field();
        promise10SentBackSoFar();
        promise11Errors();
        promise11HowMany();
        promise11TheLowest();
        promise11Bridge();
        promise11HowManyMore();
        promise12Errors();
        promise12WhoeverTurn();
        promise13Errors();
        promise13TurnAndThrow();
        promise13AtHome();
        promise13SentBackInAll();
        promise13BridgesAsASet();
        promise13PadAndHistory();
        promise14WithoutAThrow();
        promise14NonePieceCanBeMoved();
        promise14ComesHome();
        promise14SendsBack();
        promise14PairThen();
        promise14GreatestThenLowest();
        promise15Errors();
        promise15ZeroAtHome();
        promise15HowMany();
        promise15FallenBridge();
        promise15TwoFallenBridges();
        promise15NoOtherPieces();
        promise16Ahead();
        promise16TheNextOne();
        promise17NotPossible();
        promise17Within400();
        promise17ZeroIfOver();
        promise17AsPlayGoes();
        nothingChanges();
        CHECK.end();
    }

    private static void due(String call, long got, long want) {
        CHECK.due(call, got, want);
    }

    /** Promise 10: "NO_SUCH if there is no such piece; BAD_VALUE if what is out of range": 0 to 11, 0 to 3. */
    private static void promise10Errors() {
        for (int piece : NO_PIECES) {
            CHECK.stays("piece(" + piece + ", 0)", Scenes::rich, game -> game.piece(piece, 0), NO_SUCH);
            CHECK.stays("piece(" + piece + ", 3)", Scenes::rich, game -> game.piece(piece, 3), NO_SUCH);
        }
        for (int what : new int[] {LEAST, -1, 4, MOST}) {
            CHECK.stays("piece(0, " + what + ")", Scenes::rich, game -> game.piece(0, what), BAD_VALUE);
            CHECK.stays("piece(11, " + what + ")", Scenes::rich, game -> game.piece(11, what), BAD_VALUE);
        }
        BridgedPachisi game = Scenes.laid(0, 7, 11, 9);
        due("the first piece's progress", game.piece(0, 0), 7);
        due("the last piece's progress", game.piece(11, 0), 9);
        due("the first piece's last number", game.piece(0, 3), 0);
        due("the last piece's last number", game.piece(11, 3), 0);
    }

    /** Promise 10: "1 its field (NONE if it is not on the ring)". */
    private static void promise10Field() {
        int[] progresses = {NONE, 0, 1, 30, 31, 32, 34, 35};
        int[] fields = {NONE, 16, 17, 14, 15, NONE, NONE, NONE};
        BridgedPachisi game = new BridgedPachisi();
        for (int i = 0; i < progresses.length; i++) {
            game.lay(7, progresses[i]);
            due("the field at " + progresses[i], game.piece(7, 1), fields[i]);
        }
    }

    /** Promise 10: "3 how often it was sent back so far": 0, 1, 2; it stays when the piece goes on. */
    private static void promise10SentBackSoFar() {
        BridgedPachisi game = new BridgedPachisi();
        for (int often = 1; often <= 5; often++) {
            Scenes.lay(game, 0, 9, 5, 3);
            due("ahead of it", game.piece(5, 3), often - 1);
            due("sent back", Check.readText(game, "2a"), 1);
            due("how often", game.piece(5, 3), often);
            due("others", game.piece(4, 3) + game.piece(3, 3) + game.piece(0, 3), 0);
            due("round", Check.readText(game, "1-1-1-"), 3);
        }
        due("undo()", game.undo() + game.undo(), 5 + 4);
        due("before the last time", game.piece(5, 3), 4);
    }

    /** Promise 11: "NO_SUCH if there is no such field; BAD_VALUE if what is out of range": 0 to 31, 0 to 4. */
    private static void promise11Errors() {
        for (int field : new int[] {LEAST, -6, -1, 32, 33, MOST}) {
            CHECK.stays("field(" + field + ", 0)", Scenes::rich, game -> game.field(field, 0), NO_SUCH);
            CHECK.stays("field(" + field + ", 4)", Scenes::rich, game -> game.field(field, 4), NO_SUCH);
        }
        for (int what : new int[] {LEAST, -1, 5, MOST}) {
            CHECK.stays("field(0, " + what + ")", Scenes::rich, game -> game.field(0, what), BAD_VALUE);
            CHECK.stays("field(31, " + what + ")", Scenes::rich, game -> game.field(31, what), BAD_VALUE);
        }
        BridgedPachisi game = new BridgedPachisi();
        due("the first field is safe", game.field(0, 2), 1);
        due("the last field is not", game.field(31, 2), 0);
        due("the last number of the first", game.field(0, 4), NONE);
        due("the last number of the last", game.field(31, 4), NONE);
    }

    /** Promise 11: "0 pieces there, how many": 0, 1 and 2; those of yards, lanes and homes are nowhere. */
    private static void promise11HowMany() {
        for (int field = 0; field < 32; field++) {
            BridgedPachisi game = new BridgedPachisi();
            due("none", game.field(field, 0), 0);
            Scenes.put(game, 10, field);
            due("one", game.field(field, 0), 1);
            due("none ahead", game.field((field + 31) % 32, 0), 0);
            due("none behind", game.field((field + 1) % 32, 0), 0);
            Scenes.put(game, 9, field);
            due("two", game.field(field, 0), 2);
        }
        BridgedPachisi game = Scenes.laid(0, 32, 1, 33, 2, 34, 3, 32, 4, 35, 5, 35, 9, 32, 10, 33);
        for (int field = 0; field < 32; field++) {
            due("off the ring", game.field(field, 0), 0);
        }
    }

    /** Promise 11: "1 the lowest piece there (NONE)": the piece 0 is one, too. */
    private static void promise11TheLowest() {
        for (int player = 0; player < 4; player++) {
            for (int field : new int[] {0, 1, 30, 31}) {
                BridgedPachisi game = new BridgedPachisi();
                due("none", game.field(field, 1), NONE);
                Scenes.put(game, 3 * player + 2, field);
                due("the only one", game.field(field, 1), 3 * player + 2);
                Scenes.put(game, 3 * player, field);
                due("the lower one", game.field(field, 1), 3 * player);
                Scenes.lay(game, 3 * player, NONE);
                Scenes.put(game, 3 * player + 1, field);
                due("the lower one", game.field(field, 1), 3 * player + 1);
            }
        }
    }

    /** Promise 11: "0 none, 1 standing, 2 strained, 3 fallen". */
    private static void promise11Bridge() {
        for (int bridge = 4; bridge < 32; bridge += 8) {
            BridgedPachisi game = new BridgedPachisi();
            due("none ahead", game.field(bridge - 1, 3), 0);
            due("none behind", game.field(bridge + 1, 3), 0);
            due("standing", game.field(bridge, 3), 1);
            Scenes.put(game, 3, bridge);
            due("with one", game.field(bridge, 3), 1);
            Scenes.put(game, 4, bridge);
            due("strained", game.field(bridge, 3), 2);
            Scenes.lay(game, 3, NONE);
            due("strained with one", game.field(bridge, 3), 2);
            Scenes.lay(game, 4, NONE);
            due("fallen", game.field(bridge, 3), 3);
            for (int other = 4; other < 32; other += 8) {
                due("the others", game.field(other, 3), other == bridge ? 3 : 1);
            }
        }
    }

    /** Promise 11: "with how many more turns ... (NONE if it is never, or has not fallen; 1 at least)". */
    private static void promise11HowManyMore() {
        BridgedPachisi game = new BridgedPachisi();
        game.set(BridgedPachisi.MENDS, 3);
        due("standing", game.field(4, 4), NONE);
        Scenes.lay(game, 0, 4, 1, 4);
        due("strained", game.field(4, 4), NONE);
        Scenes.lay(game, 0, NONE, 1, NONE);
        for (int more = 3; more >= 1; more--) {
            due("fallen", game.field(4, 4), more);
            due("no bridge beside", game.field(3, 4), NONE);
            game.set(BridgedPachisi.MENDS, 0);
            due("never", game.field(4, 4), NONE);
            game.set(BridgedPachisi.MENDS, 1);
            due("1 at least", game.field(4, 4), 1);
            game.set(BridgedPachisi.MENDS, 40);
            due("by the greatest", game.field(4, 4), 37 + more);
            game.set(BridgedPachisi.MENDS, 3);
            due("as before", game.field(4, 4), more);
            due("passing", Check.readText(game, "1-"), 1);
        }
        due("mended", game.field(4, 4), NONE);
        due("it stands", game.field(4, 3), 1);
        // "Never" is read as MENDS 0: lay() may take the end of a game back.
        game = new BridgedPachisi();
        game.set(BridgedPachisi.MENDS, 3);
        Scenes.fell(game, 0, 3);
        Scenes.allHome(game, 2);
        due("when the game is over", game.field(4, 4), 3);
    }

    /** Promise 12: "NO_SUCH if there is no such piece; BAD_VALUE if cast is out of range": 0 to 11, 1 to 6. */
    private static void promise12Errors() {
        for (int piece : NO_PIECES) {
            CHECK.stays("why(" + piece + ", 1)", Scenes::rich, game -> game.why(piece, 1), NO_SUCH);
            CHECK.stays("why(" + piece + ", 6)", Scenes::rich, game -> game.why(piece, 6), NO_SUCH);
        }
        for (int cast : new int[] {LEAST, -6, -1, 0, 7, 8, MOST}) {
            CHECK.stays("why(0, " + cast + ")", Scenes::rich, game -> game.why(0, cast), BAD_VALUE);
            CHECK.stays("why(11, " + cast + ")", Scenes::rich, game -> game.why(11, cast), BAD_VALUE);
        }
        BridgedPachisi game = Scenes.laid(0, 1, 11, 1);
        due("the first piece by the least", game.why(0, 1), 0);
        due("the last piece by the greatest", game.why(11, 6), 0);
        due("a piece at home by no throw", Scenes.laid(0, 35).why(0, 0), BAD_VALUE);
    }

    /** Promise 12: "0 to 11 (whoever's turn it is)", with or without a throw, also when the game is over. */
    private static void promise12WhoeverTurn() {
        for (int player = 0; player < 4; player++) {
            BridgedPachisi game = Check.turnOf(player);
            Scenes.lay(game, 0, 2, 3, 34, 6, 35);
            whyOfThree(game);
            Check.castIs(game, 4);
            whyOfThree(game);
            Scenes.allHome(game, 3);
            whyOfThree(game);
        }
    }

    private static void whyOfThree(BridgedPachisi game) {
        due("by any throw", game.why(0, 5), 0);
        due("just so", game.why(3, 1), 0);
        due("beyond", game.why(3, 2), 3);
        due("at home", game.why(6, 1), 1);
        due("in the yard", game.why(7, 4), 2);
        due("comes in", game.why(7, 5), 0);
    }

    /** Promise 13: "BAD_VALUE if what is out of range": 0 to 17. */
    private static void promise13Errors() {
        for (int what : new int[] {LEAST, -6, -1, 18, 19, MOST}) {
            CHECK.stays("count(" + what + ")", Scenes::rich, game -> game.count(what), BAD_VALUE);
        }
        BridgedPachisi game = new BridgedPachisi();
        game.set(BridgedPachisi.ENTERS, 2);
        game.set(BridgedPachisi.MENDS, 3);
        game.set(BridgedPachisi.AGAINS, 0);
        due("the first", game.count(0), 2);
        due("the second", game.count(1), 3);
        due("the third", game.count(2), 0);
        due("the last", game.count(17), 3);
    }

    /** Promise 13: "5 the throw (NONE if there is none), 6 turns that have begun (1 at first), 7 throws ...". */
    private static void promise13TurnAndThrow() {
        BridgedPachisi game = new BridgedPachisi();
        for (int turn = 1; turn <= 10; turn++) {
            due("whose turn", game.count(4), (turn - 1) % 4);
            due("no throw", game.count(5), NONE);
            due("turns", game.count(6), turn);
            due("throws", game.count(7), 0);
            Check.castIs(game, 1 + turn % 4);
            due("the throw", game.count(5), 1 + turn % 4);
            due("turns", game.count(6), turn);
            due("throws", game.count(7), 1);
            game.skip();
        }
    }

    /** Promise 13: "8 the winner (NONE), 9 to 12 pieces at home of the players 0 to 3": 0 to 3 of each. */
    private static void promise13AtHome() {
        for (int player = 0; player < 4; player++) {
            BridgedPachisi game = new BridgedPachisi();
            for (int atHome = 0; atHome <= 3; atHome++) {
                for (int other = 0; other < 4; other++) {
                    due("at home", game.count(9 + other), other == player ? atHome : 0);
                }
                due("the winner", game.count(8), atHome == 3 ? player : NONE);
                if (atHome < 3) {
                    Scenes.lay(game, 3 * player + atHome, 34);
                    due("in the lane is not at home", game.count(9 + player), atHome);
                    Scenes.lay(game, 3 * player + atHome, 35);
                }
            }
        }
    }

    /** Promise 13: "13 pieces that were sent back so far": of all players, together. */
    private static void promise13SentBackInAll() {
        BridgedPachisi game = new BridgedPachisi();
        due("none", game.count(13), 0);
        for (int player = 0; player < 4; player++) {
            int other = (player + 1) % 4;
            Scenes.lay(game, 3 * player, 9);
            Scenes.put(game, 3 * other + player % 3, 8 * player + 11 & 31);
            due("sent back", Check.readText(game, "2a"), 1);
            due("in all", game.count(13), player + 1);
            Scenes.lay(game, 3 * player, NONE);
        }
        due("of each", game.piece(3, 3) + game.piece(7, 3) + game.piece(11, 3) + game.piece(0, 3), 4);
    }

    /** Promise 13: "14 bridges that are fallen, as a set ..., 15 bridges that fell so far": 0 to 15, and more. */
    private static void promise13BridgesAsASet() {
        for (int set = 0; set <= 15; set++) {
            BridgedPachisi game = new BridgedPachisi();
            for (int bridge = 0; bridge < 4; bridge++) {
                if ((set >> bridge & 1) == 1) {
                    Scenes.fell(game, bridge, 3);
                }
            }
            due("as a set", game.count(14), set);
            due("fell so far", game.count(15), Integer.bitCount(set));
            game.set(BridgedPachisi.MENDS, 1);
            due("passing", Check.readText(game, "1-"), 1);
            due("all mended", game.count(14), 0);
            due("fell so far", game.count(15), Integer.bitCount(set));
        }
    }

    /** Promise 13: "16 the length of the pad, 17 how many changes can be undone": 0 to 60, 0 to 6. */
    private static void promise13PadAndHistory() {
        BridgedPachisi game = new BridgedPachisi();
        for (int length = 0; length <= 60; length++) {
            due("length", game.count(16), length);
            game.put('5');
        }
        due("length", game.count(16), 60);
        for (int changes = 0; changes <= 8; changes++) {
            due("changes", game.count(17), Math.min(changes, 6));
            game.seed(changes);
        }
        game.undo();
        due("changes", game.count(17), 5);
    }

    /** Promise 14: "NOT_POSSIBLE if there is no throw". */
    private static void promise14WithoutAThrow() {
        CHECK.stays("best()", Scenes::rich, game -> game.best(), NOT_POSSIBLE);
        CHECK.stays("best() when it is over", Scenes::richAndOver, game -> game.best(), NOT_POSSIBLE);
        CHECK.stays("best() with a throw", Scenes::richWithThrow, game -> game.best(), 1);
        CHECK.stays("best() with a throw when it is over", Scenes::richAndOverWithThrow, game -> game.best(), 1);
    }

    /** Promise 14: "NONE if no piece can be moved"; the piece is 0 to 2, of the player whose turn it is. */
    private static void promise14NonePieceCanBeMoved() {
        for (int player = 0; player < 4; player++) {
            for (int own = 0; own < 3; own++) {
                BridgedPachisi game = Check.turnOf(player);
                // Pieces of another player that could be moved, and would come home.
                Scenes.lay(game, (3 * player + 3) % 12, 31);
                Check.castIs(game, 4);
                due("none can be moved", game.best(), NONE);
                Scenes.lay(game, 3 * player + own, 1);
                due("one can be moved", game.best(), own);
            }
        }
    }

    private static void bestIs(String which, int want, int cast, int... pieceAndProgress) {
        BridgedPachisi game = new BridgedPachisi();
        game.set(BridgedPachisi.ENTERS, 3);
        Scenes.lay(game, pieceAndProgress);
        Check.castIs(game, cast);
        due(which, game.best(), want);
    }

    /** Promise 14: "one that comes home by it; otherwise ...": at 35 just so, not at 34, and not beyond. */
    private static void promise14ComesHome() {
        bestIs("home ahead of sending back", 0, 2, 0, 33, 1, 17, 2, 3, 3, 11);
        bestIs("34 is not home", 1, 2, 0, 32, 1, 17, 3, 11);
        bestIs("beyond is no move", 1, 3, 0, 33, 1, 17, 3, 12);
        bestIs("home ahead of a pair", 2, 4, 0, 5, 1, 9, 2, 31);
        bestIs("34 behind a pair", 0, 3, 0, 6, 1, 9, 2, 31);
        bestIs("of two that come home the one with the greatest progress", 0, 6, 0, 29, 1, 5, 2, 4);
        bestIs("of two that come home the lowest", 1, 1, 1, 34, 2, 34);
        bestIs("home ahead of a greater progress, which cannot be", 2, 5, 0, 31, 1, 32, 2, 30);
    }

    /** Promise 14: "otherwise one by which a piece is sent back": not one that it goes by, and not in the lane. */
    private static void promise14SendsBack() {
        bestIs("ahead of a greater progress", 0, 2, 0, 9, 1, 20, 2, 25, 3, 3);
        bestIs("gone by is not sent back", 2, 3, 0, 9, 1, 20, 2, 25, 3, 3);
        bestIs("one short of it is not either", 2, 1, 0, 9, 1, 20, 2, 25, 3, 3);
        bestIs("ahead of a pair", 1, 2, 0, 21, 1, 9, 2, 23, 3, 3);
        bestIs("of two that send back the greatest progress", 2, 2, 0, 9, 1, 25, 2, 13, 3, 3, 6, 31);
        bestIs("a pair of another cannot be sent back", 2, 2, 0, 9, 1, 20, 2, 25, 3, 3, 4, 3);
        bestIs("nor one on a safe field", 1, 2, 0, 14, 1, 20, 6, 0);
        bestIs("nor is one sent back from the lane on", 2, 2, 0, 30, 1, 9, 2, 31, 3, 24, 6, 17);
    }

    /** Promise 14: "otherwise one that stands in a pair then": on the ring alone, and not one that stood in it. */
    private static void promise14PairThen() {
        bestIs("ahead of a greater progress", 0, 3, 0, 6, 1, 9, 2, 25);
        bestIs("a pair on the last field of the ring", 0, 3, 0, 28, 1, 31, 2, 30);
        bestIs("none in the lane", 2, 2, 0, 30, 1, 31, 2, 32);
        bestIs("ahead of a piece beside", 2, 3, 0, 6, 1, 10, 2, 25);
        bestIs("a pair that is given up is none", 2, 3, 0, 9, 1, 9, 2, 25);
        bestIs("one that comes in to another", 0, 3, 1, 0, 2, 25);
        bestIs("one that comes in to none", 2, 3, 1, 1, 2, 25);
        bestIs("the greatest progress of two that come to a pair", 1, 3, 0, 6, 1, 9, 2, 12);
        bestIs("a third cannot come to a pair", 1, 3, 0, 6, 1, 9, 2, 9);
    }

    /** Promise 14: "the one with the greatest progress (the yard is the least), of these the lowest." */
    private static void promise14GreatestThenLowest() {
        bestIs("the greatest", 2, 3, 0, 5, 1, 9, 2, 10);
        bestIs("the greatest", 1, 3, 0, 10, 1, 17, 2, 5);
        bestIs("the lowest of the greatest", 0, 3, 0, 10, 1, 10, 2, 5);
        bestIs("the lowest of the greatest", 1, 3, 0, 5, 1, 10, 2, 10);
        bestIs("the yard is less than 1", 2, 3, 2, 1);
        bestIs("the yard is less than 0", 2, 3, 0, 35, 2, 0, 1, 35);
        bestIs("0 is more than the yard, though the yard's piece is lower", 1, 4, 0, NONE, 1, 0, 2, 4);
        bestIs("the lowest in the yard", 0, 3);
        bestIs("the lowest in the yard", 1, 3, 0, 35);
        bestIs("the last one in the yard", 2, 3, 0, 35, 1, 34);
        bestIs("in the lane", 2, 1, 0, 31, 1, 32, 2, 33);
    }

    /** Promise 15: "NO_SUCH if there is no such piece; BAD_VALUE if way is neither 0 nor 1." */
    private static void promise15Errors() {
        for (int piece : NO_PIECES) {
            CHECK.stays("needs(" + piece + ", 0)", Scenes::rich, game -> game.needs(piece, 0), NO_SUCH);
            CHECK.stays("needs(" + piece + ", 1)", Scenes::rich, game -> game.needs(piece, 1), NO_SUCH);
        }
        for (int way : new int[] {LEAST, -6, -1, 2, 3, MOST}) {
            CHECK.stays("needs(0, " + way + ")", Scenes::rich, game -> game.needs(0, way), BAD_VALUE);
            CHECK.stays("needs(11, " + way + ")", Scenes::rich, game -> game.needs(11, way), BAD_VALUE);
        }
        CHECK.stays("at home by no way", game -> game.lay(0, 35), game -> game.needs(0, 2), BAD_VALUE);
    }

    private static void needsIs(BridgedPachisi game, int piece, int want) {
        due("needs, step by step", game.needs(piece, 0), want);
        due("needs, going wide", game.needs(piece, 1), want);
    }

    /** Promise 15: "0 at home (the same by both ways)"; 1 ahead of it. */
    private static void promise15ZeroAtHome() {
        for (int piece = 0; piece < 12; piece++) {
            BridgedPachisi game = Scenes.laid(piece, 35);
            needsIs(game, piece, 0);
            Scenes.lay(game, piece, 34);
            needsIs(game, piece, 1);
        }
    }

    /** Promise 15: "how many throws a piece needs at least": 6 steps by one throw, 7 by two; one more from the yard. */
    private static void promise15HowMany() {
        for (int player = 0; player < 4; player++) {
            BridgedPachisi game = new BridgedPachisi();
            int piece = 3 * player + 2;
            needsIs(game, piece, 7);
            for (int progress = 0; progress <= 35; progress++) {
                Scenes.lay(game, piece, progress);
                needsIs(game, piece, (40 - progress) / 6);
            }
        }
        for (int enters = 1; enters <= 6; enters++) {
            BridgedPachisi game = new BridgedPachisi();
            game.set(BridgedPachisi.ENTERS, enters);
            needsIs(game, 4, 7);
        }
    }

    /** Promise 15: "and the bridges stayed as they are": a fallen one counts, a strained one does not. */
    private static void promise15FallenBridge() {
        int[] needed = {3, 3, 3, 2, 2, 2, 2};
        int[] standing = {3, 3, 2, 2, 2, 2, 2};
        for (int player = 0; player < 4; player++) {
            int piece = 3 * player;
            int bridge = (player + 3) % 4;
            BridgedPachisi game = new BridgedPachisi();
            Scenes.lay(game, piece + 1, 28, piece + 2, 28);
            for (int progress = 21; progress <= 27; progress++) {
                Scenes.lay(game, piece, progress);
                needsIs(game, piece, standing[progress - 21]);
            }
            Scenes.lay(game, piece + 1, NONE, piece + 2, NONE);
            due("fallen", game.count(14), 1 << bridge);
            // MENDS would mend it with the next turn: it counts as it is.
            game.set(BridgedPachisi.MENDS, 1);
            for (int progress = 21; progress <= 27; progress++) {
                Scenes.lay(game, piece, progress);
                needsIs(game, piece, needed[progress - 21]);
            }
            Scenes.lay(game, piece, 29);
            needsIs(game, piece, 1);
        }
    }

    /** Promise 15: with two fallen bridges on the way one throw more from 0 than from 1, and two more from the yard. */
    private static void promise15TwoFallenBridges() {
        for (int player = 0; player < 4; player++) {
            BridgedPachisi game = new BridgedPachisi();
            int piece = 3 * player;
            Scenes.fell(game, player, player);
            Scenes.fell(game, (player + 2) % 4, player);
            needsIs(game, piece, 8);
            Scenes.lay(game, piece, 0);
            needsIs(game, piece, 7);
            Scenes.lay(game, piece, 1);
            needsIs(game, piece, 6);
        }
        BridgedPachisi game = new BridgedPachisi();
        for (int bridge = 0; bridge < 4; bridge++) {
            Scenes.fell(game, bridge, 2);
        }
        needsIs(game, 0, 1 + fewestOverAllFallen());
        Scenes.lay(game, 0, 0);
        needsIs(game, 0, fewestOverAllFallen());
    }

    /** All progresses that some throws lead to, from 0 on, with every bridge fallen; each told by its own sum. */
    private static int fewestOverAllFallen() {
        boolean[] reached = new boolean[42];
        reached[0] = true;
        int made = 0;
        while (!reached[35]) {
            boolean[] next = new boolean[42];
            for (int at = 0; at < 35; at++) {
                for (int to = at + 1; reached[at] && to <= at + 6; to++) {
                    // Behind 4, 12, 20 and 28 the way is longer by 1 each.
                    boolean fallenThere = to < 32 && to % 8 == 4;
                    int bridges = (Math.min(to, 31) + 4) / 8 - (Math.min(at, 31) + 4) / 8;
                    next[to] |= !fallenThere && to - at + bridges <= 6;
                }
            }
            reached = next;
            made++;
        }
        return made;
    }

    /** Promise 15: "if no other pieces were on the board": pairs, safe fields and its own are no hindrance. */
    private static void promise15NoOtherPieces() {
        BridgedPachisi game = Scenes.laid(0, 29, 1, 35, 2, 34, 3, 22, 4, 22, 6, 15);
        due("blocked", game.why(0, 6), 4);
        needsIs(game, 0, 1);
        game = Scenes.laid(3, 24, 4, 24);
        due("blocked where it comes in", game.why(0, 6), 4);
        needsIs(game, 0, 7);
        game = Scenes.laid(0, 23, 1, 29, 2, 29);
        due("full", game.why(0, 6), 5);
        needsIs(game, 0, 2);
        game = Scenes.laid(0, 29);
        Scenes.allHome(game, 3);
        needsIs(game, 0, 1);
    }

    /** Promise 16: "ahead: 0 to 99"; "BAD_VALUE if ahead is out of range." */
    private static void promise16Ahead() {
        for (int ahead : new int[] {LEAST, -6, -1, 100, 101, MOST}) {
            CHECK.stays("nextCast(" + ahead + ")", Scenes::rich, game -> game.nextCast(ahead), BAD_VALUE);
        }
        for (int number : new int[] {0, 1, 2, MOST}) {
            long x = number;
            for (int ahead = 0; ahead <= 99; ahead++) {
                BridgedPachisi game = new BridgedPachisi();
                game.seed(number);
                due("nextCast(" + ahead + ")", game.nextCast(ahead), Check.castBehind(x));
                x = Check.nextX(x);
            }
        }
    }

    /** Promise 16: "the throw that would be made next": also with a throw, and when the game is over. */
    private static void promise16TheNextOne() {
        BridgedPachisi game = new BridgedPachisi();
        int[] foretold = new int[100];
        for (int ahead = 0; ahead <= 99; ahead++) {
            foretold[ahead] = game.nextCast(ahead);
        }
        due("cast()", game.cast(), foretold[0]);
        due("the next one with a throw", game.nextCast(0), foretold[1]);
        due("the last one with a throw", game.nextCast(98), foretold[99]);
        game.skip();
        due("98 throws", game.play(98), 98);
        due("the hundredth", game.cast(), foretold[99]);
        CHECK.stays("when it is over", Scenes::richAndOver, over -> over.nextCast(0), Check.castBehind(1));
    }

    /** Promise 17: "NOT_POSSIBLE if there is a throw", also when the game is over. */
    private static void promise17NotPossible() {
        CHECK.stays("untilOver()", Scenes::richWithThrow, game -> game.untilOver(), NOT_POSSIBLE);
        CHECK.stays("untilOver() when it is over", Scenes::richAndOverWithThrow, game -> game.untilOver(),
                NOT_POSSIBLE);
    }

    /** Promise 17: "NONE if it is not within 400": 399, 400, and not 401. */
    private static void promise17Within400() {
        for (int left : new int[] {1, 2, 100, 101, 399, 400, 401}) {
            Consumer<BridgedPachisi> scene = LongGames.scene(left);
            CHECK.stays("untilOver() with " + left + " left", scene, game -> game.untilOver(),
                    left <= 400 ? left : NONE);
        }
    }

    /** Promise 17: "0 if it is over". */
    private static void promise17ZeroIfOver() {
        CHECK.stays("untilOver()", Scenes::richAndOver, game -> game.untilOver(), 0);
        BridgedPachisi game = LongGames.endsWith(1);
        due("1 left", game.untilOver(), 1);
        due("play()", game.play(1), 1);
        due("0 left", game.untilOver(), 0);
    }

    /** Promise 17: "if play() goes on (with x as it is)": with bridges that fell some turns ago, asked twice. */
    private static void promise17AsPlayGoes() {
        for (int number = 1; number <= 60; number++) {
            BridgedPachisi game = new BridgedPachisi();
            game.set(BridgedPachisi.MENDS, 40);
            Check.readText(game, "1-".repeat(30));
            Scenes.fell(game, number % 4, 3);
            Scenes.fell(game, (number + 1) % 4, 3);
            game.seed(number);
            int foretold = game.untilOver();
            due("asked again", game.untilOver(), foretold);
            int made = 0;
            while (made < 401 && game.play(1) == 1) {
                made++;
            }
            due("as play() goes", foretold, made <= 400 ? made : NONE);
        }
    }

    /** "What there is; nothing changes" and "what if; nothing changes": the promises 10 to 17 without an error. */
    private static void nothingChanges() {
        CHECK.stays("piece()", Scenes::rich, game -> game.piece(1, 0), 7);
        CHECK.stays("field()", Scenes::rich, game -> game.field(12, 3), 2);
        CHECK.stays("why()", Scenes::rich, game -> game.why(0, 6), 4);
        CHECK.stays("count()", Scenes::rich, game -> game.count(14), 1);
        CHECK.stays("best()", Scenes::richWithThrow, game -> game.best(), 1);
        CHECK.stays("needs() step by step", Scenes::rich, game -> game.needs(0, 0), 5);
        CHECK.stays("needs() going wide", Scenes::rich, game -> game.needs(0, 1), 5);
        CHECK.stays("nextCast()", Scenes::rich, game -> game.nextCast(99), new BridgedPachisi().nextCast(99));
        int left = untilOverByPlaying();
        CHECK.stays("untilOver()", Scenes::rich, game -> game.untilOver(), left <= 400 ? left : NONE);
    }

    private static int untilOverByPlaying() {
        BridgedPachisi game = new BridgedPachisi();
        Scenes.rich(game);
        int made = 0;
        while (made <= 400 && game.play(1) == 1) {
            made++;
        }
        return made;
    }
}
