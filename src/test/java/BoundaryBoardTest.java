/** Boundaries of the terms "Conventions", "Settings" and "The board", a method for each sentence that names one. */
public final class BoundaryBoardTest {
    private static final int NO_SUCH = Check.NO_SUCH, BAD_VALUE = Check.BAD_VALUE, BAD_TEXT = Check.BAD_TEXT;
    private static final int NOT_POSSIBLE = Check.NOT_POSSIBLE, NONE = Check.NONE;
    private static final Check CHECK = new Check("BoundaryBoardTest");

    public static void main(String[] args) {
        firstErrorOfTwo();
        firstErrorOfNumbers();
        noneOnlyWithoutError();
        settingsAndTheirRanges();
        firstSettings();
        fieldsOfTheRing();
        playersAndTheirPieces();
        yardAtFirst();
        ringLaneHome();
        ringGoesRound();
        safeFields();
        bridgeFields();
        pairIsTwo();
        pairOnTheRingAlone();
        pairBlocksOthers();
        CHECK.end();
    }

    private static void due(String call, long got, long want) {
        CHECK.due(call, got, want);
    }

    /** Conventions: "it names its errors in the order in which they are checked, and the first one that applies". */
    private static void firstErrorOfTwo() {
        CHECK.stays("move(3) without a throw", Scenes::rich, game -> game.move(3), NO_SUCH);
        CHECK.stays("move(-1) without a throw", Scenes::rich, game -> game.move(-1), NO_SUCH);
        CHECK.stays("play(0) with a throw", Scenes::richWithThrow, game -> game.play(0), BAD_VALUE);
        CHECK.stays("play(101) with a throw", Scenes::richWithThrow, game -> game.play(101), BAD_VALUE);
        CHECK.stays("play(0) when it is over", Scenes::richAndOver, game -> game.play(0), BAD_VALUE);
        CHECK.stays("play(101) when it is over", Scenes::richAndOver, game -> game.play(101), BAD_VALUE);
        CHECK.stays("read() of a fault with a throw", game -> {
            Scenes.richWithThrow(game);
            game.put('7');
        }, game -> game.read(), BAD_TEXT);
        CHECK.stays("read() of an empty pad with a throw", game -> {
            Scenes.richWithThrow(game);
            game.wipe();
        }, game -> game.read(), BAD_TEXT);
        CHECK.stays("put() of a wrong code, too long", game -> {
            Scenes.rich(game);
            Check.write(game, "5".repeat(52));
        }, game -> game.put(127), BAD_VALUE);
        CHECK.stays("restore(2) of nothing", game -> game.seed(9), game -> game.restore(2), BAD_VALUE);
        CHECK.stays("restore(-1) of nothing", game -> game.seed(9), game -> game.restore(-1), BAD_VALUE);
    }

    /** Conventions: the same, for two numbers that are both out of range. */
    private static void firstErrorOfNumbers() {
        for (int sign = -1; sign <= 1; sign += 2) {
            int noPiece = sign < 0 ? -1 : 12;
            int noField = sign < 0 ? -1 : 32;
            CHECK.stays("lay of no piece to no progress", Scenes::rich, game -> game.lay(noPiece, 36), NO_SUCH);
            CHECK.stays("lay of no piece to no progress", Scenes::rich, game -> game.lay(noPiece, -1), NO_SUCH);
            CHECK.stays("piece of no piece and nothing", Scenes::rich, game -> game.piece(noPiece, 4), NO_SUCH);
            CHECK.stays("piece of no piece and nothing", Scenes::rich, game -> game.piece(noPiece, -1), NO_SUCH);
            CHECK.stays("field of no field and nothing", Scenes::rich, game -> game.field(noField, 5), NO_SUCH);
            CHECK.stays("field of no field and nothing", Scenes::rich, game -> game.field(noField, -1), NO_SUCH);
            CHECK.stays("why of no piece by no throw", Scenes::rich, game -> game.why(noPiece, 0), NO_SUCH);
            CHECK.stays("why of no piece by no throw", Scenes::rich, game -> game.why(noPiece, 7), NO_SUCH);
            CHECK.stays("needs of no piece by no way", Scenes::rich, game -> game.needs(noPiece, -1), NO_SUCH);
            CHECK.stays("needs of no piece by no way", Scenes::rich, game -> game.needs(noPiece, 2), NO_SUCH);
        }
    }

    /** Conventions: "NONE (-6) is not an error; it is returned only if no error applies." */
    private static void noneOnlyWithoutError() {
        BridgedPachisi game = new BridgedPachisi();
        due("best() without a throw, and no piece to move", game.best(), NOT_POSSIBLE);
        due("what 4 of a piece that is on no field", game.piece(0, 4), BAD_VALUE);
        due("its field", game.piece(0, 1), NONE);
        due("what 5 of a field without a piece", game.field(1, 5), BAD_VALUE);
        due("its lowest piece", game.field(1, 1), NONE);
        due("count(18), although there is no throw and no winner", game.count(18), BAD_VALUE);
        due("fault() of a faultless pad", Check.write(game, "5a") + game.fault(), 2 + NONE);
        due("what lay() answers for the yard before", game.lay(0, 0), NONE);
        game = LongGames.endsWith(401);
        due("untilOver() of a long game", game.untilOver(), NONE);
        game.cast();
        due("untilOver() of a long game with a throw", game.untilOver(), NOT_POSSIBLE);
    }

    /** Settings: "ENTERS (1 to 6; 5). MENDS (0 to 40; 0). AGAINS (0 to 3; 1)." */
    private static void settingsAndTheirRanges() {
        int[][] ranges = {{1, 6}, {0, 40}, {0, 3}};
        for (int number = 0; number < 3; number++) {
            int setting = number;
            int least = ranges[number][0];
            int greatest = ranges[number][1];
            CHECK.stays("below the least", Scenes::rich, game -> game.set(setting, least - 1), BAD_VALUE);
            CHECK.stays("above the greatest", Scenes::rich, game -> game.set(setting, greatest + 1), BAD_VALUE);
            BridgedPachisi game = new BridgedPachisi();
            int first = game.count(setting);
            due("least", game.set(setting, least), first);
            due("least then", game.count(setting), least);
            due("least and 1", game.set(setting, least + 1), least);
            due("greatest but 1", game.set(setting, greatest - 1), least + 1);
            due("greatest", game.set(setting, greatest), greatest - 1);
            due("greatest then", game.count(setting), greatest);
            for (int other = 0; other < 3; other++) {
                due("others stay", other == setting ? 0 : game.count(other) - new BridgedPachisi().count(other), 0);
            }
        }
    }

    /** Settings: "first value": 5, 0 and 1, as they are and as they act. */
    private static void firstSettings() {
        BridgedPachisi game = new BridgedPachisi();
        due("ENTERS", game.count(0), 5);
        due("MENDS", game.count(1), 0);
        due("AGAINS", game.count(2), 1);
        due("not in by 4", game.why(0, 4), 2);
        due("in by 5", game.why(0, 5), 0);
        Scenes.fell(game, 0, 3);
        due("never mended", game.field(4, 4), NONE);
        due("one six gives another throw, two do not", Check.readText(game, "6a6a5a"), 3);
        due("so that player 1 came in", game.piece(3, 0), 0);
    }

    /** The board: "a ring of 32 fields, 0 to 31". */
    private static void fieldsOfTheRing() {
        for (int what = 0; what <= 4; what++) {
            int asked = what;
            CHECK.stays("the field -1", Scenes::rich, game -> game.field(-1, asked), NO_SUCH);
            CHECK.stays("the field 32", Scenes::rich, game -> game.field(32, asked), NO_SUCH);
        }
        BridgedPachisi game = Scenes.laid(0, 0, 1, 31);
        due("the field 0", game.field(0, 1), 0);
        due("the field 31", game.field(31, 1), 1);
        due("the field 1", game.field(1, 1), NONE);
        due("the field 30", game.field(30, 1), NONE);
    }

    /** The board: "3 pieces each: the piece 3 * player and 0, 1 or 2, together (0 to 11)". */
    private static void playersAndTheirPieces() {
        for (int player = 0; player < 4; player++) {
            for (int own = 0; own < 3; own++) {
                BridgedPachisi game = Check.turnOf(player);
                Check.castIs(game, 5);
                due("the piece " + own + " of player " + player, game.move(own), 0);
                for (int piece = 0; piece < 12; piece++) {
                    due("only that one", game.piece(piece, 0), piece == 3 * player + own ? 0 : NONE);
                }
                due("its field", game.piece(3 * player + own, 1), 8 * player);
            }
            BridgedPachisi game = Check.turnOf(player);
            Check.castIs(game, 5);
            due("no piece -1 of a player", game.move(-1), NO_SUCH);
            due("no piece 3 of a player", game.move(3), NO_SUCH);
        }
    }

    /** The board: "NONE in the yard (as all at first)". */
    private static void yardAtFirst() {
        BridgedPachisi game = new BridgedPachisi();
        for (int piece = 0; piece < 12; piece++) {
            due("progress", game.piece(piece, 0), NONE);
            due("field", game.piece(piece, 1), NONE);
            due("out of it", game.lay(piece, piece), NONE);
            due("and back", game.lay(piece, NONE), piece);
            due("progress", game.piece(piece, 0), NONE);
        }
    }

    /** The board: "0 to 31 on the ring, 32 to 34 in its lane, and 35 at home". */
    private static void ringLaneHome() {
        for (int player = 0; player < 4; player++) {
            int piece = 3 * player + 2;
            BridgedPachisi game = Scenes.laid(piece, 0);
            due("0 is on the ring", game.piece(piece, 1), 8 * player);
            Scenes.lay(game, piece, 31);
            due("31 is on the ring", game.piece(piece, 1), (8 * player + 31) % 32);
            for (int progress = 32; progress <= 34; progress++) {
                Scenes.lay(game, piece, progress);
                due("in the lane", game.piece(piece, 1), NONE);
                due("on no field of the ring", game.field((8 * player + progress) % 32, 0), 0);
                due("not at home", game.count(9 + player), 0);
                due("can go on by 1", game.why(piece, 1), 0);
            }
            Scenes.lay(game, piece, 35);
            due("at home", game.piece(piece, 1), NONE);
            due("one is at home", game.count(9 + player), 1);
            due("cannot go on", game.why(piece, 1), 1);
        }
    }

    /** The board: "(8 times its player, and its progress, together) left over by 32": 31 is ahead of 0. */
    private static void ringGoesRound() {
        for (int player = 0; player < 4; player++) {
            int piece = 3 * player;
            BridgedPachisi game = new BridgedPachisi();
            for (int field = 0; field < 32; field++) {
                game.lay(piece, (field + 32 - 8 * player) % 32);
                due("the field of player " + player, game.piece(piece, 1), field);
                due("the piece there", game.field(field, 1), piece);
            }
        }
        BridgedPachisi game = Check.turnOf(1);
        Scenes.lay(game, 3, 23);
        due("the last field of the ring", game.piece(3, 1), 31);
        Check.castIs(game, 1);
        due("goes on", game.move(0), 24);
        due("to the first one", game.piece(3, 1), 0);
        due("none is on the last one", game.field(31, 0), 0);
    }

    /** The board: "The fields 0, 8, 16 and 24 are safe", and none beside them. */
    private static void safeFields() {
        for (int safe = 0; safe < 32; safe += 8) {
            for (int beside = -1; beside <= 1; beside++) {
                int field = (safe + beside + 32) % 32;
                due("safe: " + field, new BridgedPachisi().field(field, 2), beside == 0 ? 1 : 0);
                // A player of whom the field is in the middle of the way.
                int mover = (field / 8 + 2) % 4;
                int other = (mover + 1) % 4;
                BridgedPachisi game = new BridgedPachisi();
                Scenes.put(game, 3 * mover, (field + 31) % 32);
                Scenes.put(game, 3 * other, field);
                due("why: " + field, game.why(3 * mover, 1), beside == 0 ? 6 : 0);
            }
        }
    }

    /** The board: "On the fields 4, 12, 20 and 28 are bridges, each standing (at first)", and none beside them. */
    private static void bridgeFields() {
        for (int bridge = 4; bridge < 32; bridge += 8) {
            for (int beside = -1; beside <= 1; beside++) {
                BridgedPachisi game = new BridgedPachisi();
                int field = bridge + beside;
                due("bridge: " + field, game.field(field, 3), beside == 0 ? 1 : 0);
                Scenes.put(game, 0, field);
                Scenes.put(game, 1, field);
                due("with a pair: " + field, game.field(field, 3), beside == 0 ? 2 : 0);
                Scenes.lay(game, 0, NONE, 1, NONE);
                due("behind a pair: " + field, game.field(field, 3), beside == 0 ? 3 : 0);
                due("fallen", game.count(14), beside == 0 ? 1 << bridge / 8 : 0);
            }
        }
    }

    /** The board: "Two pieces of one player on one field of the ring are a pair": not one, and not two beside. */
    private static void pairIsTwo() {
        for (int progress = 0; progress <= 31; progress++) {
            BridgedPachisi game = Scenes.laid(6, progress);
            due("one", game.piece(6, 2), 0);
            Scenes.lay(game, 7, progress == 31 ? 30 : progress + 1);
            due("one beside", game.piece(6, 2), 0);
            Scenes.lay(game, 7, progress);
            due("two", game.piece(6, 2), 1);
            due("the other of them", game.piece(7, 2), 1);
            due("the third piece", game.piece(8, 2), 0);
            Scenes.lay(game, 6, NONE);
            due("one again", game.piece(7, 2), 0);
        }
    }

    /** The board: a pair is "on one field of the ring": not in the yard, in the lane or at home. */
    private static void pairOnTheRingAlone() {
        BridgedPachisi game = new BridgedPachisi();
        for (int piece = 0; piece < 12; piece++) {
            due("three in the yard", game.piece(piece, 2), 0);
        }
        Scenes.lay(game, 0, 31, 1, 31);
        due("the last progress on the ring", game.piece(1, 2), 1);
        for (int progress = 32; progress <= 35; progress++) {
            Scenes.lay(game, 0, progress, 1, progress);
            due("two at " + progress, game.piece(0, 2), 0);
            due("two at " + progress, game.piece(1, 2), 0);
        }
        Scenes.lay(game, 2, 35);
        due("three at home", game.piece(2, 2), 0);
        Scenes.lay(game, 0, 8, 3, 32);
        due("two players with one number, on two ways", game.piece(0, 2) + game.piece(3, 2), 0);
    }

    /** The board: pairs "block it for the pieces of others": not one piece, and not the pieces of the pair's player. */
    private static void pairBlocksOthers() {
        for (int field = 0; field < 32; field++) {
            if (field % 8 != 0) {
                int behind = (field + 31) % 32;
                int mover = (field / 8 + 2) % 4;
                int other = (mover + 3) % 4;
                BridgedPachisi game = new BridgedPachisi();
                Scenes.put(game, 3 * mover, behind);
                Scenes.put(game, 3 * other, field);
                due("one of another on " + field, game.why(3 * mover, 1), 0);
                due("past one of another on " + field, game.why(3 * mover, 3), 0);
                Scenes.put(game, 3 * other + 1, field);
                due("two of another on " + field, game.why(3 * mover, 1), 4);
                due("past two of another on " + field, game.why(3 * mover, 3), 4);
                Scenes.lay(game, 3 * mover, NONE);
                Scenes.put(game, 3 * other + 2, behind);
                due("past its own pair on " + field, game.why(3 * other + 2, 3), 0);
            }
        }
    }
}
