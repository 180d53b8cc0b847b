/** Boundaries of the term "Moving", a method for each sentence that names one. */
public final class BoundaryMovingTest {
    private static final int NOT_POSSIBLE = Check.NOT_POSSIBLE, NONE = Check.NONE;
    private static final Check CHECK = new Check("BoundaryMovingTest");

    public static void main(String[] args) {
        comesInByEnters();
        comesInToZero();
        stepByStep();
        throughTheLane();
        aroundFallenBridge();
        standingBridgeTakesOne();
        reason1Home();
        reason2Yard();
        reason3BeyondHome();
        reason4OnItsWay();
        reason4WhereItComesIn();
        reason4NotFromTheLane();
        reason5OnTheRing();
        reason5InTheLane();
        reason5NotAtHome();
        reason5WhereItComesIn();
        reason6LastFieldAlone();
        reason6OwnAndNone();
        reason6NotFromTheLane();
        firstReasonOfTwo();
        sentBack();
        sentBackFromTheLastFieldAlone();
        CHECK.end();
    }

    private static void due(String call, long got, long want) {
        CHECK.due(call, got, want);
    }

    /** In a new game it is this player's turn, pieces are laid, and it throws. */
    private static BridgedPachisi thrown(int player, int cast, int... pieceAndProgress) {
        BridgedPachisi game = Check.turnOf(player);
        Scenes.lay(game, pieceAndProgress);
        Check.castIs(game, cast);
        return game;
    }

    /** Moving: "comes in with a throw of ENTERS or more", which is 1 to 6. */
    private static void comesInByEnters() {
        for (int enters = 1; enters <= 6; enters++) {
            for (int cast = 1; cast <= 6; cast++) {
                BridgedPachisi game = new BridgedPachisi();
                game.set(BridgedPachisi.ENTERS, enters);
                Check.castIs(game, cast);
                due("why, ENTERS " + enters + ", throw " + cast, game.why(2, cast), cast < enters ? 2 : 0);
                due("why of another player", game.why(11, cast), cast < enters ? 2 : 0);
                due("best", game.best(), cast < enters ? NONE : 0);
                due("move", game.move(2), cast < enters ? NOT_POSSIBLE : 0);
            }
        }
    }

    /** Moving: "its progress becomes 0 (the rest of the throw does not count)". */
    private static void comesInToZero() {
        for (int player = 0; player < 4; player++) {
            for (int cast = 1; cast <= 6; cast++) {
                BridgedPachisi game = Check.turnOf(player);
                game.set(BridgedPachisi.ENTERS, 1);
                Check.castIs(game, cast);
                due("by " + cast, game.move(0), 0);
                due("progress", game.piece(3 * player, 0), 0);
                due("field", game.piece(3 * player, 1), 8 * player);
            }
        }
    }

    /** Moving: "Another piece goes on step by step: each step brings the progress 1 more", 1 to 6 of them. */
    private static void stepByStep() {
        for (int from = 0; from <= 34; from++) {
            for (int cast = 1; cast <= 6; cast++) {
                int to = from + cast;
                BridgedPachisi game = thrown(0, cast, 0, from);
                due("why from " + from + " by " + cast, game.why(0, cast), to > 35 ? 3 : 0);
                due("move from " + from + " by " + cast, game.move(0), to > 35 ? NOT_POSSIBLE : to);
                due("progress then", game.piece(0, 0), to > 35 ? from : to);
            }
        }
    }

    /** Moving: the steps from 31 to 32, from 34 to 35, and none beyond, for each player. */
    private static void throughTheLane() {
        for (int player = 0; player < 4; player++) {
            int piece = 3 * player + 1;
            due("31", thrown(player, 1, piece, 30).move(1), 31);
            due("32", thrown(player, 1, piece, 31).move(1), 32);
            due("34", thrown(player, 1, piece, 33).move(1), 34);
            due("35", thrown(player, 1, piece, 34).move(1), 35);
            due("beyond", thrown(player, 2, piece, 34).move(1), NOT_POSSIBLE);
            due("from the ring home", thrown(player, 4, piece, 31).move(1), 35);
            due("from the ring beyond", thrown(player, 5, piece, 31).move(1), NOT_POSSIBLE);
            BridgedPachisi game = thrown(player, 1, piece, 31);
            game.move(1);
            due("off the ring", game.piece(piece, 1), NONE);
        }
    }

    /** Moving: a fallen bridge "takes 2 of the throw, in place of 1, and the piece cannot stop there". */
    private static void aroundFallenBridge() {
        for (int player = 0; player < 4; player++) {
            for (int bridge = 0; bridge < 4; bridge++) {
                for (int ahead = 1; ahead <= 4; ahead++) {
                    for (int cast = 1; cast <= 6; cast++) {
                        aroundFallenBridge(player, bridge, ahead, cast);
                    }
                }
            }
        }
    }

    /** Just below: the piece stops ahead of it; 1 left there, or on it: reason 3; just above: behind it. */
    private static void aroundFallenBridge(int player, int bridge, int ahead, int cast) {
        int from = Scenes.progressOn(player, 8 * bridge + 4) - ahead;
        BridgedPachisi game = Check.turnOf(player);
        Scenes.fell(game, bridge, player);
        Scenes.lay(game, 3 * player, from);
        Check.castIs(game, cast);
        boolean cannot = cast == ahead || cast == ahead + 1;
        int to = cast < ahead ? from + cast : from + cast - 1;
        due("why, " + ahead + " ahead, by " + cast, game.why(3 * player, cast), cannot ? 3 : 0);
        due("move, " + ahead + " ahead, by " + cast, game.move(0), cannot ? NOT_POSSIBLE : to);
    }

    /** Moving: "a field with a fallen bridge": one that stands, strained or not, takes 1, and can be stopped on. */
    private static void standingBridgeTakesOne() {
        due("on to a standing one", thrown(0, 2, 0, 2).move(0), 4);
        due("over a standing one", thrown(0, 3, 0, 2).move(0), 5);
        // One piece of the pair has gone.
        due("on to a strained one", thrown(0, 2, 0, 4, 1, 4, 0, 2).move(0), 4);
        due("over a strained one", thrown(0, 3, 0, 4, 1, 4, 0, 2).move(0), 5);
        due("from a strained one", thrown(0, 3, 0, 4, 1, 4).move(0), 7);
        BridgedPachisi game = new BridgedPachisi();
        game.set(BridgedPachisi.MENDS, 1);
        Scenes.fell(game, 0, 1);
        Check.readText(game, "1-1-1-1-");
        Scenes.lay(game, 0, 2);
        Check.castIs(game, 2);
        due("on to a mended one", game.move(0), 4);
    }

    /** Moving: "1 it is at home": at 35, not at 34. */
    private static void reason1Home() {
        for (int piece = 0; piece < 12; piece++) {
            BridgedPachisi game = Scenes.laid(piece, 35);
            for (int cast = 1; cast <= 6; cast++) {
                due("at home", game.why(piece, cast), 1);
            }
            Scenes.lay(game, piece, 34);
            due("ahead of home by 1", game.why(piece, 1), 0);
            due("ahead of home by 2", game.why(piece, 2), 3);
        }
    }

    /** Moving: "2 it is in the yard, and the throw is below ENTERS": not at 0, whatever the throw is. */
    private static void reason2Yard() {
        BridgedPachisi game = new BridgedPachisi();
        game.set(BridgedPachisi.ENTERS, 6);
        due("in the yard by 5", game.why(8, 5), 2);
        due("in the yard by 6", game.why(8, 6), 0);
        Scenes.lay(game, 8, 0);
        due("at 0 by 5", game.why(8, 5), 0);
        due("at 0 by 1", game.why(8, 1), 0);
    }

    /** Moving: "3 the throw leads beyond the progress 35": to 35 just so, not to 36. */
    private static void reason3BeyondHome() {
        for (int left = 1; left <= 7; left++) {
            BridgedPachisi game = Scenes.laid(3, 35 - left);
            for (int cast = 1; cast <= 6; cast++) {
                due(left + " ahead of home by " + cast, game.why(3, cast), cast > left ? 3 : 0);
            }
        }
    }

    /** Moving: "4 a field of the ring that it goes to on its way, the last one counted", is blocked. */
    private static void reason4OnItsWay() {
        for (int field = 0; field < 32; field++) {
            for (int ahead = -1; ahead <= 6; ahead++) {
                if (ahead != 0) {
                    reason4(field, ahead);
                }
            }
        }
    }

    /** A pair on the field, and a piece so far ahead of it (-1: behind it) in the middle of its way. */
    private static void reason4(int field, int ahead) {
        int mover = (field / 8 + 2) % 4;
        int other = (mover + 1) % 4;
        BridgedPachisi game = new BridgedPachisi();
        Scenes.put(game, 3 * other, field);
        Scenes.put(game, 3 * other + 1, field);
        Scenes.put(game, 3 * mover, (field + 32 - ahead) % 32);
        for (int cast = 1; cast <= 6; cast++) {
            boolean blocked = ahead >= 1 && ahead <= cast;
            due("pair " + ahead + " ahead by " + cast, game.why(3 * mover, cast), blocked ? 4 : 0);
        }
    }

    /** Moving: "(for one that comes in: the field to which it comes)": not those behind it. */
    private static void reason4WhereItComesIn() {
        for (int player = 0; player < 4; player++) {
            int other = (player + 1) % 4;
            for (int beside = -1; beside <= 6; beside++) {
                BridgedPachisi game = new BridgedPachisi();
                int field = (8 * player + beside + 32) % 32;
                Scenes.put(game, 3 * other + 1, field);
                Scenes.put(game, 3 * other + 2, field);
                due("pair beside by 5", game.why(3 * player, 5), beside == 0 ? 4 : 0);
                due("pair beside by 6", game.why(3 * player, 6), beside == 0 ? 4 : 0);
            }
        }
    }

    /** Moving: "a field of the ring": behind the progress 31 no pair of another player is on the way. */
    private static void reason4NotFromTheLane() {
        for (int player = 0; player < 4; player++) {
            int other = (player + 2) % 4;
            for (int beyond = 0; beyond <= 3; beyond++) {
                // The field to which a step from 31 would lead, if the ring went on.
                int field = (8 * player + beyond) % 32;
                BridgedPachisi game = new BridgedPachisi();
                Scenes.put(game, 3 * other, field);
                Scenes.put(game, 3 * other + 1, field);
                Scenes.lay(game, 3 * player, 30);
                for (int cast = 1; cast <= 5; cast++) {
                    due("into the lane by " + cast, game.why(3 * player, cast), 0);
                }
                Scenes.lay(game, 3 * player, 32);
                due("in the lane", game.why(3 * player, 1), 0);
            }
            BridgedPachisi game = new BridgedPachisi();
            Scenes.lay(game, 3 * player, 30);
            Scenes.put(game, 3 * other, (8 * player + 31) % 32);
            Scenes.put(game, 3 * other + 1, (8 * player + 31) % 32);
            due("the last one on the ring is on the way", game.why(3 * player, 1), 4);
            due("into the lane past it", game.why(3 * player, 2), 4);
        }
    }

    /** Moving: "5 two pieces of its own player stand on the last field": not one, and not on the way. */
    private static void reason5OnTheRing() {
        for (int last = 1; last <= 31; last++) {
            BridgedPachisi game = Scenes.laid(9, last - 1, 10, last);
            due("one on the last field", game.why(9, 1), 0);
            Scenes.lay(game, 11, last);
            due("two on the last field", game.why(9, 1), 5);
            due("two on the way", game.why(9, 2), 0);
            Scenes.lay(game, 11, last + 1);
            due("one each on two fields", game.why(9, 1), 0);
        }
    }

    /** Moving: "(of the ring or of the lane". */
    private static void reason5InTheLane() {
        for (int last = 32; last <= 34; last++) {
            BridgedPachisi game = Scenes.laid(5, last - 1, 3, last);
            due("one in the lane", game.why(5, 1), 0);
            Scenes.lay(game, 4, last);
            due("two in the lane", game.why(5, 1), 5);
            due("past two in the lane", game.why(5, 2), 0);
            Scenes.lay(game, 4, NONE, 7, last, 8, last);
            due("two of another player, in their own lane", game.why(5, 1), 0);
        }
    }

    /** Moving: "at home there is room for all)". */
    private static void reason5NotAtHome() {
        for (int atHome = 0; atHome <= 2; atHome++) {
            BridgedPachisi game = Check.turnOf(1);
            for (int i = 0; i < atHome; i++) {
                Scenes.lay(game, 3 + i, 35);
            }
            Scenes.lay(game, 5, 34);
            Check.castIs(game, 1);
            due("with " + atHome + " at home", game.why(5, 1), 0);
            due("home", game.move(2), 35);
            due("at home then", game.count(10), atHome + 1);
        }
    }

    /** Moving: the last field is that of the progress 0 for one that comes in. */
    private static void reason5WhereItComesIn() {
        for (int player = 0; player < 4; player++) {
            BridgedPachisi game = Scenes.laid(3 * player, 0);
            due("one where it comes in", game.why(3 * player + 2, 5), 0);
            Scenes.lay(game, 3 * player + 1, 0);
            due("two where it comes in", game.why(3 * player + 2, 5), 5);
            due("two in the yard are no hindrance there", game.why((3 * player + 3) % 12, 5), 0);
            Scenes.lay(game, 3 * player + 1, 1);
            due("one beside", game.why(3 * player + 2, 5), 0);
        }
    }

    /** Moving: "6 the last field is safe, and a piece of another player stands there": not a safe one on the way. */
    private static void reason6LastFieldAlone() {
        for (int safe = 0; safe < 32; safe += 8) {
            int mover = (safe / 8 + 2) % 4;
            int other = (mover + 1) % 4;
            BridgedPachisi game = new BridgedPachisi();
            Scenes.put(game, 3 * other, safe);
            for (int ahead = 1; ahead <= 5; ahead++) {
                Scenes.put(game, 3 * mover, (safe + 32 - ahead) % 32);
                due("ahead of it", game.why(3 * mover, ahead), 6);
                due("past it", game.why(3 * mover, ahead + 1), 0);
            }
            // The player whose pieces come in there.
            due("where it comes in", game.why(3 * (safe / 8), 6), 6);
            Scenes.put(game, 3 * other, safe + 1);
            due("beside where it comes in", game.why(3 * (safe / 8), 6), 0);
        }
    }

    /** Moving: "a piece of another player": its own, or none, is no hindrance on a safe field. */
    private static void reason6OwnAndNone() {
        for (int safe = 0; safe < 32; safe += 8) {
            int mover = (safe / 8 + 1) % 4;
            BridgedPachisi game = new BridgedPachisi();
            Scenes.put(game, 3 * mover, (safe + 31) % 32);
            due("none on the safe field", game.why(3 * mover, 1), 0);
            Scenes.put(game, 3 * mover + 1, safe);
            due("its own on the safe field", game.why(3 * mover, 1), 0);
        }
    }

    /** Moving: the last field of a piece that goes into its lane is not the field where it came in. */
    private static void reason6NotFromTheLane() {
        for (int player = 0; player < 4; player++) {
            int other = (player + 3) % 4;
            BridgedPachisi game = Check.turnOf(player);
            Scenes.put(game, 3 * other, 8 * player);
            Scenes.lay(game, 3 * player, 31);
            Check.castIs(game, 1);
            due("into the lane", game.why(3 * player, 1), 0);
            due("move", game.move(0), 32);
            due("nobody is sent back by it", game.piece(3 * other, 1), 8 * player);
        }
    }

    /** Moving: "for the first of these reasons that applies": two that apply both. */
    private static void firstReasonOfTwo() {
        BridgedPachisi game = Scenes.laid(0, 35);
        due("1 and 3: at home, and beyond it", game.why(0, 1), 1);
        game = Scenes.laid(3, 24, 4, 24);
        due("2 and 4: in the yard, and a pair where it comes in", game.why(0, 4), 2);
        due("4 alone", game.why(0, 5), 4);
        game = Scenes.laid(0, 0, 1, 0);
        due("2 and 5: in the yard, and two where it comes in", game.why(2, 4), 2);
        game = Scenes.laid(3, 24);
        due("2 and 6: in the yard, and another where it comes in", game.why(0, 4), 2);
        game = Scenes.laid(0, 30, 3, 23, 4, 23);
        due("3 and 4: beyond home, past a pair", game.why(0, 6), 3);
        due("4 alone", game.why(0, 5), 4);
        game = new BridgedPachisi();
        Scenes.fell(game, 1, 2);
        Scenes.lay(game, 0, 9, 3, 2, 4, 2);
        due("3 and 4: on a fallen bridge, past a pair", game.why(0, 4), 3);
        due("3 and 4: 1 left ahead of it, past a pair", game.why(0, 3), 3);
        due("4 alone, around it", game.why(0, 5), 4);
        game = Scenes.laid(0, 1, 1, 6, 2, 6, 3, 27, 4, 27);
        due("4 and 5: past a pair to two of its own", game.why(0, 5), 4);
        game = Scenes.laid(0, 5, 3, 31, 4, 31, 6, 24);
        due("4 and 6: past a pair to a safe field", game.why(0, 3), 4);
        game = Scenes.laid(0, 5, 3, 0, 4, 0);
        due("4 and 6: to a pair on a safe field", game.why(0, 3), 4);
    }

    /** Moving: "one piece of another player stands, that piece is sent back to its yard": it, and no other. */
    private static void sentBack() {
        for (int field = 0; field < 32; field++) {
            if (field % 8 != 0) {
                int mover = (field / 8 + 2) % 4;
                int other = (mover + 2) % 4;
                BridgedPachisi game = Check.turnOf(mover);
                Scenes.put(game, 3 * other + 1, field);
                Scenes.put(game, 3 * other + 2, field == 31 ? 30 : field + 1);
                Scenes.put(game, 3 * mover, (field + 30) % 32);
                Check.castIs(game, 2);
                due("to the field " + field, game.move(0) < 0 ? 0 : 1, 1);
                due("sent back", game.piece(3 * other + 1, 0), NONE);
                due("how often", game.piece(3 * other + 1, 3), 1);
                due("the one beside stays", game.piece(3 * other + 2, 1), field == 31 ? 30 : field + 1);
                due("pieces there", game.field(field, 0), 1);
                due("in all", game.count(13), 1);
            }
        }
    }

    /** Moving: "When a piece comes to a field": not to those that it only goes by, and not to its own pieces. */
    private static void sentBackFromTheLastFieldAlone() {
        BridgedPachisi game = thrown(0, 4, 0, 9, 3, 2, 6, 27, 9, 20, 4, 6);
        due("by 10, 11 and 12 to 13", game.move(0), 13);
        for (int piece : new int[] {3, 6, 9, 4}) {
            due("gone by, or beside", game.piece(piece, 3), 0);
        }
        due("in all", game.count(13), 0);
        game = thrown(0, 4, 0, 9, 1, 13);
        due("to its own", game.move(0), 13);
        due("its own stays", game.piece(1, 0), 13);
        due("a pair", game.piece(1, 2), 1);
    }
}
