/** Games as the tests of the boundaries want them. */
final class Scenes {
    private static final int NONE = Check.NONE;

    private Scenes() {
    }

    /** Pieces and progresses, by turns; each has to be possible. */
    static void lay(BridgedPachisi game, int... pieceAndProgress) {
        for (int i = 0; i < pieceAndProgress.length; i += 2) {
            if (game.lay(pieceAndProgress[i], pieceAndProgress[i + 1]) == Check.NOT_POSSIBLE) {
                throw new IllegalStateException("cannot be laid: " + pieceAndProgress[i]);
            }
        }
    }

    static BridgedPachisi laid(int... pieceAndProgress) {
        BridgedPachisi game = new BridgedPachisi();
        lay(game, pieceAndProgress);
        return game;
    }

    /** The progress of a player at which its pieces stand on a field. */
    static int progressOn(int player, int field) {
        return (field - 8 * player + 32) % 32;
    }

    /** Lays a piece on a field of the ring. */
    static void put(BridgedPachisi game, int piece, int field) {
        lay(game, piece, progressOn(piece / 3, field));
    }

    /** Makes a bridge, 0 to 3, fall by a pair of this player, which is in the yard again then. */
    static void fell(BridgedPachisi game, int bridge, int player) {
        int progress = progressOn(player, 8 * bridge + 4);
        int first = 3 * player;
        lay(game, first, progress, first + 1, progress, first, NONE, first + 1, NONE);
        if (game.field(8 * bridge + 4, 3) != 3) {
            throw new IllegalStateException("it has not fallen: " + bridge);
        }
    }

    static void allHome(BridgedPachisi game, int player) {
        lay(game, 3 * player, 35, 3 * player + 1, 35, 3 * player + 2, 35);
    }

    /**
     * Everything is there: a full history, two slots, a text, pieces on the ring, a fallen bridge (0) and a strained
     * one (1, by the pieces 3 and 4). It is the turn of player 0, who has not thrown.
     */
    static void rich(BridgedPachisi game) {
        game.save(0);
        game.set(BridgedPachisi.MENDS, 7);
        lay(game, 0, 4, 1, 4, 0, 6, 1, 7, 3, 4, 4, 4);
        game.save(1);
        Check.write(game, "6c6b5a2-");
    }

    /** The same, and player 0 has thrown a 3, by which the pieces 0 and 1 can be moved. */
    static void richWithThrow(BridgedPachisi game) {
        rich(game);
        Check.castIs(game, 3);
    }

    /** The same, and player 2 has won. */
    static void richAndOver(BridgedPachisi game) {
        rich(game);
        allHome(game, 2);
    }

    static void richAndOverWithThrow(BridgedPachisi game) {
        richWithThrow(game);
        allHome(game, 2);
    }

    /** A number for seed() behind which the next x is this one: the formula's way back. */
    static int seedTo(long x) {
        long factor = 1103515245L;
        long inverse = 1;
        // Each round doubles the bits that are right; of an odd factor one bit is right at first.
        for (int round = 0; round < 6; round++) {
            inverse = inverse * (2 - factor * inverse);
        }
        return (int) (Math.floorMod(x - 12345, 2147483648L) * inverse & 2147483647L);
    }
}
