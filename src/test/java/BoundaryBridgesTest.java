/** Boundaries of the term "Bridges", a method for each sentence that names one. */
public final class BoundaryBridgesTest {
    private static final int NOT_POSSIBLE = Check.NOT_POSSIBLE, NONE = Check.NONE;
    private static final int STANDING = 1, STRAINED = 2, FALLEN = 3;
    private static final Check CHECK = new Check("BoundaryBridgesTest");

    public static void main(String[] args) {
        strainedByAPair();
        strainedByLay();
        strainedStillWithOne();
        fallsBehindTheLast();
        standsThoughOneIsSentBack();
        doesNotFallUnstrained();
        strainedNoMoreThen();
        mendedNeverByZero();
        mendedBehindMendsTurns();
        mendedByTheGreatest();
        mendedWhenATurnBegins();
        mendsSetLater();
        mendedOfSeveral();
        mendedAndAgain();
        CHECK.end();
    }

    private static void due(String call, long got, long want) {
        CHECK.due(call, got, want);
    }

    private static void passes(BridgedPachisi game, int turns) {
        for (int i = 0; i < turns; i++) {
            Check.castIs(game, 1);
            if (game.skip() == NOT_POSSIBLE) {
                throw new IllegalStateException("a piece can be moved");
            }
        }
    }

    /** Bridges: "is strained, as soon as a pair stands on it": not by one, nor by one beside. */
    private static void strainedByAPair() {
        for (int bridge = 4; bridge < 32; bridge += 8) {
            for (int player = 0; player < 4; player++) {
                int on = Scenes.progressOn(player, bridge);
                BridgedPachisi game = Check.turnOf(player);
                Scenes.lay(game, 3 * player, on - 1, 3 * player + 2, on - 1);
                Check.castIs(game, 1);
                game.move(0);
                due("one on it", game.field(bridge, 3), STANDING);
                game.undo();
                Scenes.lay(game, 3 * player + 1, on + 1);
                game.move(0);
                due("one on it, and one beside", game.field(bridge, 3), STANDING);
                game.undo();
                Scenes.lay(game, 3 * player + 1, on);
                due("another one on it", game.field(bridge, 3), STANDING);
                game.move(0);
                due("two on it", game.field(bridge, 3), STRAINED);
                due("not fallen", game.count(14), 0);
            }
        }
    }

    /** Bridges: the same by lay(), and by pieces of one player alone. */
    private static void strainedByLay() {
        for (int bridge = 4; bridge < 32; bridge += 8) {
            BridgedPachisi game = new BridgedPachisi();
            Scenes.put(game, 7, bridge);
            due("one", game.field(bridge, 3), STANDING);
            due("one of another player", game.lay(0, bridge), NOT_POSSIBLE);
            due("one still", game.field(bridge, 3), STANDING);
            Scenes.put(game, 8, bridge);
            due("two", game.field(bridge, 3), STRAINED);
            for (int other = 4; other < 32; other += 8) {
                due("others", game.field(other, 3), other == bridge ? STRAINED : STANDING);
            }
        }
    }

    /** Bridges: "When no piece stands on a strained bridge any more": one piece holds it, and need be no pair. */
    private static void strainedStillWithOne() {
        BridgedPachisi game = Scenes.laid(0, 12, 1, 12);
        Check.castIs(game, 1);
        game.move(0);
        due("one has gone", game.field(12, 3), STRAINED);
        due("the other is no pair", game.piece(1, 2), 0);
        due("none fell", game.count(15), 0);
        Scenes.lay(game, 2, 12);
        Scenes.lay(game, 1, 13);
        due("a third holds it", game.field(12, 3), STRAINED);
        Scenes.lay(game, 2, 12);
        due("laid where it stands", game.field(12, 3), STRAINED);
    }

    /** Bridges: "it falls (and is not strained then)", by the last piece's move, and by lay() to any place. */
    private static void fallsBehindTheLast() {
        for (int bridge = 0; bridge < 4; bridge++) {
            int field = 8 * bridge + 4;
            BridgedPachisi game = Scenes.laid(0, field, 1, field, 1, 1);
            Check.castIs(game, 1);
            due("strained ahead of the move", game.field(field, 3), STRAINED);
            game.move(0);
            due("fallen behind it", game.field(field, 3), FALLEN);
            due("as a set", game.count(14), 1 << bridge);
            due("fell so far", game.count(15), 1);
        }
        for (int to : new int[] {NONE, 11, 13, 32, 34, 35}) {
            BridgedPachisi game = Scenes.laid(0, 12, 1, 12, 0, 1);
            due("strained", game.field(12, 3), STRAINED);
            Scenes.lay(game, 1, to);
            due("fallen by lay() to " + to, game.field(12, 3), FALLEN);
            due("fell so far", game.count(15), 1);
        }
    }

    /** Bridges: a piece that is sent back from a strained one leaves the one that came on it. */
    private static void standsThoughOneIsSentBack() {
        BridgedPachisi game = Scenes.laid(3, 28, 4, 28, 3, 1, 0, 3);
        due("strained with one of player 1", game.field(4, 3), STRAINED);
        due("player 0 comes to it", Check.readText(game, "1a"), 1);
        due("player 1's is sent back", game.piece(4, 3), 1);
        due("strained still", game.field(4, 3), STRAINED);
        due("none fell", game.count(15), 0);
        due("round to player 0", Check.readText(game, "1a1-1-1a"), 4);
        due("fallen as this one goes on", game.field(4, 3), FALLEN);
    }

    /** Bridges: "a strained bridge" falls: one that only one piece at a time stood on does not. */
    private static void doesNotFallUnstrained() {
        BridgedPachisi game = Scenes.laid(0, 4, 0, 5, 1, 4, 1, 6, 2, 4, 2, NONE, 6, 20, 6, NONE);
        due("stands", game.field(4, 3), STANDING);
        game = Scenes.laid(0, 4, 3, 27);
        due("one goes, and one of another player comes", Check.readText(game, "1a1a"), 2);
        due("both have been there", game.piece(3, 1), 4);
        due("stands", game.field(4, 3), STANDING);
        due("none fell", game.count(15), 0);
    }

    /** Bridges: "(and is not strained then)": a mended one stands, and one piece that comes and goes is no strain. */
    private static void strainedNoMoreThen() {
        BridgedPachisi game = new BridgedPachisi();
        game.set(BridgedPachisi.MENDS, 1);
        Scenes.fell(game, 0, 0);
        passes(game, 1);
        due("mended", game.field(4, 3), STANDING);
        Scenes.lay(game, 0, 4);
        due("one on it", game.field(4, 3), STANDING);
        Scenes.lay(game, 0, NONE);
        due("none on it", game.field(4, 3), STANDING);
        due("fell so far", game.count(15), 1);
    }

    /** Bridges: "is mended (stands again), if MENDS is not 0". */
    private static void mendedNeverByZero() {
        BridgedPachisi game = new BridgedPachisi();
        Scenes.fell(game, 3, 0);
        for (int turn = 0; turn < 45; turn++) {
            due("never", game.field(28, 4), NONE);
            due("fallen", game.field(28, 3), FALLEN);
            passes(game, 1);
        }
        due("turns", game.count(6), 46);
        due("fallen", game.field(28, 3), FALLEN);
    }

    /** Bridges: "MENDS turns or more have begun since it fell, that one counted": not with one turn less. */
    private static void mendedBehindMendsTurns() {
        for (int mends = 1; mends <= 5; mends++) {
            BridgedPachisi game = new BridgedPachisi();
            game.set(BridgedPachisi.MENDS, mends);
            passes(game, 2);
            Scenes.fell(game, 1, 1);
            passes(game, mends - 1);
            due("one turn less", game.field(12, 3), FALLEN);
            due("one more", game.field(12, 4), 1);
            due("the set", game.count(14), 2);
            passes(game, 1);
            due("just so many", game.field(12, 3), STANDING);
            due("it has not fallen any more", game.field(12, 4), NONE);
            due("the set", game.count(14), 0);
            due("fell so far", game.count(15), 1);
        }
    }

    /** Bridges: the same by the greatest MENDS, 40. */
    private static void mendedByTheGreatest() {
        BridgedPachisi game = new BridgedPachisi();
        game.set(BridgedPachisi.MENDS, 40);
        Scenes.fell(game, 2, 1);
        for (int more = 40; more >= 1; more--) {
            due("fallen", game.field(20, 3), FALLEN);
            due("with how many more", game.field(20, 4), more);
            passes(game, 1);
        }
        due("mended", game.field(20, 3), STANDING);
        due("with how many more", game.field(20, 4), NONE);
    }

    /** Bridges: "when a turn begins": not behind a throw that gives another one, nor by set(), undo() or restore(). */
    private static void mendedWhenATurnBegins() {
        BridgedPachisi game = Scenes.laid(0, 0, 1, 4, 2, 4, 1, 7);
        due("the last one falls it by a 6", Check.readText(game, "6c"), 1);
        game.set(BridgedPachisi.MENDS, 1);
        due("same turn", game.count(6), 1);
        due("fallen", game.field(4, 3), FALLEN);
        game.set(BridgedPachisi.MENDS, 2);
        game.save(0);
        game.restore(0);
        game.undo();
        due("fallen still", game.field(4, 3), FALLEN);
        Check.castIs(game, 1);
        due("nor by a throw", game.field(4, 3), FALLEN);
        game.move(0);
        due("one turn has begun", game.field(4, 3), FALLEN);
        passes(game, 1);
        due("two turns have begun", game.field(4, 3), STANDING);

        game = Scenes.laid(0, 4, 1, 4, 1, 7);
        game.set(BridgedPachisi.MENDS, 1);
        due("it falls, and in the same call the next turn begins", Check.readText(game, "1a"), 1);
        due("the turn that begins is counted", game.field(4, 3), STANDING);
        due("fell so far", game.count(15), 1);
    }

    /** Bridges: "MENDS turns or more": a MENDS that is set lower mends with the next turn, not at once. */
    private static void mendsSetLater() {
        for (int mends = 4; mends <= 7; mends++) {
            BridgedPachisi game = new BridgedPachisi();
            Scenes.fell(game, 0, 1);
            passes(game, 5);
            game.set(BridgedPachisi.MENDS, mends);
            due("not at once", game.field(4, 3), FALLEN);
            due("with how many more, 1 at least", game.field(4, 4), mends == 7 ? 2 : 1);
            passes(game, 1);
            due("with the next turn", game.field(4, 3), mends == 7 ? FALLEN : STANDING);
        }
    }

    /** Bridges: each of the fallen ones is mended in its own time. */
    private static void mendedOfSeveral() {
        BridgedPachisi game = new BridgedPachisi();
        game.set(BridgedPachisi.MENDS, 4);
        for (int bridge = 0; bridge < 4; bridge++) {
            Scenes.fell(game, bridge, 1);
            due("fell so far", game.count(15), bridge + 1);
            if (bridge < 3) {
                passes(game, 1);
            }
        }
        int[] sets = {15, 14, 12, 8, 0};
        for (int turn = 0; turn <= 4; turn++) {
            due("as a set", game.count(14), sets[turn]);
            for (int bridge = 0; bridge < 4; bridge++) {
                due("with how many more", game.field(8 * bridge + 4, 4), bridge < turn ? NONE : bridge + 1 - turn);
            }
            passes(game, 1);
        }
    }

    /** Bridges: "each standing (at first) or fallen": a mended one can be strained, fall and be mended again. */
    private static void mendedAndAgain() {
        BridgedPachisi game = new BridgedPachisi();
        game.set(BridgedPachisi.MENDS, 2);
        for (int round = 1; round <= 3; round++) {
            Scenes.fell(game, 1, 2);
            due("fell so far", game.count(15), round);
            due("with how many more", game.field(12, 4), 2);
            passes(game, 1);
            due("fallen", game.field(12, 3), FALLEN);
            passes(game, 1);
            due("mended", game.field(12, 3), STANDING);
        }
    }
}
