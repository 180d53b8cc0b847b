/** Promises 10 to 17: piece, field, why, count, best, needs, nextCast, untilOver. */
public final class LooksTest {
    private static final int NO_SUCH = Check.NO_SUCH, BAD_VALUE = Check.BAD_VALUE;
    private static final int NOT_POSSIBLE = Check.NOT_POSSIBLE, NONE = Check.NONE;
    private static final int[] WILD = {Integer.MIN_VALUE, -1000000, -7, -6, -1, Integer.MAX_VALUE, 1000000};
    private static final Check CHECK = new Check("LooksTest");

    public static void main(String[] args) {
        promise10Piece();
        promise11Field();
        promise11FieldBridges();
        promise12WhyErrors();
        promise12HomeYardAndBeyond();
        promise12FallenBridge();
        promise12Blocked();
        promise12FullAndSafe();
        promise12FirstReason();
        promise13Count();
        promise14Best();
        promise14BestOfAKind();
        promise15Needs();
        promise15NeedsAgainstSearch();
        promise16NextCast();
        promise17UntilOver();
        CHECK.end();
    }

    private static void due(String call, long got, long want) {
        CHECK.due(call, got, want);
    }

    private static BridgedPachisi laid(int... pieceAndProgress) {
        BridgedPachisi game = new BridgedPachisi();
        lay(game, pieceAndProgress);
        return game;
    }

    private static void lay(BridgedPachisi game, int... pieceAndProgress) {
        for (int i = 0; i < pieceAndProgress.length; i += 2) {
            game.lay(pieceAndProgress[i], pieceAndProgress[i + 1]);
            due("laid", game.piece(pieceAndProgress[i], 0), pieceAndProgress[i + 1]);
        }
    }

    private static void fellAll(BridgedPachisi game) {
        for (int progress = 4; progress < 32; progress += 8) {
            lay(game, 0, progress, 1, progress, 0, NONE, 1, NONE);
        }
        due("all fallen", game.count(14), 15);
    }

    private static void promise10Piece() {
        BridgedPachisi game = laid(0, 30, 4, 23, 5, 0, 6, 32, 7, 32, 8, 35, 9, 9, 10, 8, 11, 8);
        int[][] fieldAndPair = {
            {30, 0}, {NONE, 0}, {NONE, 0}, {NONE, 0}, {31, 0}, {8, 0}, {NONE, 0}, {NONE, 0}, {NONE, 0}, {1, 0}, {0, 1},
            {0, 1}};
        for (int piece = 0; piece < 12; piece++) {
            due("piece(" + piece + ", 1)", game.piece(piece, 1), fieldAndPair[piece][0]);
            due("piece(" + piece + ", 2)", game.piece(piece, 2), fieldAndPair[piece][1]);
            due("piece(" + piece + ", 3)", game.piece(piece, 3), 0);
            due("piece(" + piece + ", 4)", game.piece(piece, 4), BAD_VALUE);
            for (int wild : WILD) {
                due("piece(" + piece + ", " + wild + ")", game.piece(piece, wild), BAD_VALUE);
                due("piece(" + wild + ", " + piece + ")", game.piece(wild, piece), NO_SUCH);
            }
        }
        due("piece(12, 9)", game.piece(12, 9), NO_SUCH);
        game = Check.turnOf(1);
        lay(game, 0, 11, 1, 13, 3, 1);
        due("sent back", Check.readText(game, "2a"), 1);
        due("once", game.piece(0, 3), 1);
        lay(game, 1, NONE);
        due("round", Check.readText(game, "1-1-1-"), 3);
        lay(game, 0, 13, 1, 2);
        due("sent back again", Check.readText(game, "2a"), 1);
        due("twice", game.piece(0, 3), 2);
        due("in the yard", game.piece(0, 0), NONE);
        due("another", game.piece(1, 3), 0);
        due("in all", game.count(13), 2);
    }

    private static void promise11Field() {
        BridgedPachisi game = laid(4, 2, 3, 2, 11, 15);
        due("two pieces", game.field(10, 0), 2);
        due("the lowest", game.field(10, 1), 3);
        due("one piece", game.field(7, 0), 1);
        due("that one", game.field(7, 1), 11);
        due("none", game.field(11, 0), 0);
        lay(game, 0, 29);
        due("the very lowest", game.field(29, 1), 0);
        due("none", game.field(11, 1), NONE);
        for (int field = 0; field < 32; field++) {
            game = new BridgedPachisi();
            due("safe", game.field(field, 2), field == 0 || field == 8 || field == 16 || field == 24 ? 1 : 0);
            due("bridge", game.field(field, 3), field == 4 || field == 12 || field == 20 || field == 28 ? 1 : 0);
            due("no bridge to mend", game.field(field, 4), NONE);
            due("field(" + field + ", 5)", game.field(field, 5), BAD_VALUE);
            for (int wild : WILD) {
                due("field(" + field + ", " + wild + ")", game.field(field, wild), BAD_VALUE);
                due("field(" + wild + ", 0)", game.field(wild, 0), NO_SUCH);
            }
        }
        due("field(32, 9)", game.field(32, 9), NO_SUCH);
        game = laid(0, 32, 1, 34, 2, 35);
        due("lanes are no fields of the ring", game.field(0, 0) + game.field(2, 0) + game.field(3, 0), 0);
    }

    private static void promise11FieldBridges() {
        BridgedPachisi game = new BridgedPachisi();
        game.set(BridgedPachisi.MENDS, 7);
        lay(game, 9, 4, 10, 4);
        due("player 3's progress 4 is the field 28", game.field(28, 3), 2);
        due("strained is not fallen", game.field(28, 4), NONE);
        lay(game, 9, 5, 10, 5);
        due("fallen", game.field(28, 3), 3);
        due("mended with", game.field(28, 4), 7);
        due("other bridges", game.field(4, 4), NONE);
        due("other fields", game.field(27, 4), NONE);
        due("bit 3", game.count(14), 8);
        game.set(BridgedPachisi.MENDS, 0);
        due("never", game.field(28, 4), NONE);
    }

    private static void promise12WhyErrors() {
        BridgedPachisi game = new BridgedPachisi();
        for (int wild : WILD) {
            due("why(" + wild + ", 0)", game.why(wild, 0), NO_SUCH);
            due("why(0, " + wild + ")", game.why(0, wild), BAD_VALUE);
        }
        due("why(12, 1)", game.why(12, 1), NO_SUCH);
        due("why(0, 0)", game.why(0, 0), BAD_VALUE);
        due("why(11, 7)", game.why(11, 7), BAD_VALUE);
        due("whoever's turn it is", game.why(11, 6), 0);
    }

    private static void promise12HomeYardAndBeyond() {
        BridgedPachisi game = laid(0, 35, 6, 34, 7, 31, 9, 29);
        for (int cast = 1; cast <= 6; cast++) {
            due("at home", game.why(0, cast), 1);
            due("in the yard", game.why(1, cast), cast < 5 ? 2 : 0);
            due("1 ahead of home", game.why(6, cast), cast == 1 ? 0 : 3);
            due("4 ahead of home", game.why(7, cast), cast <= 4 ? 0 : 3);
            due("6 ahead of home", game.why(9, cast), 0);
        }
    }

    private static void promise12FallenBridge() {
        BridgedPachisi game = new BridgedPachisi();
        fellAll(game);
        for (int player = 0; player < 4; player++) {
            int piece = 3 * player + 1;
            for (int progress = 4; progress < 32; progress += 8) {
                lay(game, piece, progress - 1);
                for (int cast = 1; cast <= 6; cast++) {
                    due("1 ahead of it by " + cast, game.why(piece, cast), cast <= 2 ? 3 : 0);
                }
                lay(game, piece, progress - 3);
                for (int cast = 1; cast <= 6; cast++) {
                    due("3 ahead of it by " + cast, game.why(piece, cast), cast == 3 || cast == 4 ? 3 : 0);
                }
            }
            lay(game, piece, 27);
            Check.castIs(game, 6);
            due("the throw is of player 0", game.count(4), 0);
            game.undo();
            lay(game, piece, NONE);
        }
        lay(game, 0, 27, 1, 3);
        Check.castIs(game, 6);
        due("5 steps by 6", game.move(0), 32);
        due("2 ahead, by 5", Check.readText(game, "5b"), 1);
        due("4 steps by 5", game.piece(1, 0), 7);
    }

    private static void promise12Blocked() {
        BridgedPachisi game = laid(3, 2, 4, 2, 0, 7);
        due("up to the pair", game.why(0, 2), 0);
        due("to the pair", game.why(0, 3), 4);
        due("by the pair", game.why(0, 4), 4);
        due("far by the pair", game.why(0, 6), 4);
        lay(game, 0, 11);
        due("the pair is behind", game.why(0, 1), 0);
        lay(game, 0, 7);
        lay(game, 4, 3);
        due("one alone does not block", game.why(0, 3), 0);
        due("nor by it", game.why(0, 5), 0);
        lay(game, 4, 2);
        lay(game, 5, 0);
        due("its own pair does not block", game.why(5, 3), 0);
        due("behind the pair", game.why(5, 1), 0);
        game = laid(3, 24, 4, 24);
        due("comes in on a pair", game.why(0, 5), 4);
        due("another comes in", game.why(6, 5), 0);
        lay(game, 0, 31);
        due("into the lane, not on to the field 0", game.why(0, 1), 0);
        lay(game, 0, NONE, 9, 7);
        due("the field 0 is on the way of player 3", game.why(9, 1), 4);
        game = laid(6, 4, 7, 4, 3, 30);
        due("beyond the end nothing blocks", game.why(3, 5), 0);
        game = laid(3, 4, 4, 4);
        game.lay(0, 12);
        due("not on to a pair", game.piece(0, 0), NONE);
        lay(game, 0, 9);
        due("a pair on a strained bridge blocks", game.why(0, 4), 4);
    }

    private static void promise12FullAndSafe() {
        BridgedPachisi game = laid(0, 3, 1, 6, 2, 6);
        due("two own on the last field", game.why(0, 3), 5);
        due("by two own", game.why(0, 5), 0);
        lay(game, 2, 7);
        due("one own on the last field", game.why(0, 3), 0);
        game = laid(0, 30, 1, 33, 2, 33);
        due("two own in the lane", game.why(0, 3), 5);
        due("by two own in the lane", game.why(0, 4), 0);
        lay(game, 1, 35, 2, 35);
        due("room for all at home", game.why(0, 5), 0);
        game = laid(0, 0, 1, 0);
        due("two own where it comes in", game.why(2, 6), 5);
        game = laid(3, 24);
        due("safe where it comes in", game.why(0, 6), 6);
        game = laid(0, 6, 3, 0, 4, 1);
        due("safe", game.why(0, 2), 6);
        due("not safe", game.why(0, 3), 0);
        due("by the safe one", game.why(0, 4), 0);
        game = laid(0, 6, 1, 8);
        due("its own on a safe field", game.why(0, 2), 0);
        game = laid(0, 8, 3, 31, 4, 30);
        due("the piece 0 keeps others from coming in", game.why(5, 5), 6);
        game = laid(0, 3, 1, 3, 9, 10);
        due("the pair of the pieces 0 and 1 blocks", game.why(9, 1), 4);
        due("the pair of the pieces 0 and 1 blocks", game.why(9, 2), 4);
        game = laid(3, 0, 4, 0, 0, 6);
        due("a pair on a safe field blocks", game.why(0, 2), 4);
    }

    private static void promise12FirstReason() {
        BridgedPachisi game = laid(3, 24, 4, 24);
        due("2 ahead of 4", game.why(0, 4), 2);
        game = laid(0, 10, 1, 12, 2, 12, 3, 3, 4, 3);
        due("4 ahead of 5", game.why(0, 2), 4);
        lay(game, 1, NONE, 2, NONE);
        due("fallen", game.field(12, 3), 3);
        due("3 ahead of 4", game.why(0, 2), 3);
        due("3 ahead of 4, ending on it", game.why(0, 3), 3);
        due("4 ahead of the rest", game.why(0, 4), 4);
    }

    private static void promise13Count() {
        BridgedPachisi game = new BridgedPachisi();
        game.set(0, 1);
        game.set(1, 9);
        game.set(2, 3);
        due("count(0)", game.count(0), 1);
        due("count(1)", game.count(1), 9);
        due("count(2)", game.count(2), 3);
        game.seed(5);
        due("count(3)", game.count(3), 5);
        lay(game, 0, 35, 4, 35, 5, 35, 6, 35, 9, 35, 10, 35, 11, 35);
        due("count(8)", game.count(8), 3);
        due("count(9)", game.count(9), 1);
        due("count(10)", game.count(10), 2);
        due("count(11)", game.count(11), 1);
        due("count(12)", game.count(12), 3);
        due("count(16)", game.count(16), 0);
        game.put('x');
        due("count(16)", game.count(16), 1);
        due("count(17)", game.count(17), 6);
        due("count(18)", game.count(18), BAD_VALUE);
        for (int wild : WILD) {
            due("count(" + wild + ")", game.count(wild), BAD_VALUE);
        }
    }

    private static void promise14Best() {
        BridgedPachisi game = new BridgedPachisi();
        due("best() without a throw", game.best(), NOT_POSSIBLE);
        Check.castIs(game, 4);
        due("best() when none can be moved", game.best(), NONE);
        due("nothing changes", game.count(5), 4);

        game = laid(0, 31, 1, 5, 2, 13, 3, 1);
        Check.castIs(game, 4);
        due("home ahead of sending back", game.best(), 0);
        lay(game, 0, 30);
        due("sending back ahead of the rest", game.best(), 1);
        game = laid(0, 30, 1, 5, 2, 9);
        Check.castIs(game, 4);
        due("a pair ahead of the rest", game.best(), 1);
        lay(game, 2, 10);
        due("any", game.best(), 0);
        game = laid(0, 18, 1, 21, 2, 25, 6, 6);
        Check.castIs(game, 4);
        due("sending back ahead of a pair", game.best(), 0);
        lay(game, 6, 7);
        due("a pair then", game.best(), 1);

        game = Check.turnOf(2);
        lay(game, 6, 3, 7, 5, 8, 20, 9, 1);
        Check.castIs(game, 2);
        due("0 to 2 of the player whose turn it is", game.best(), 0);
        game.lay(6, 1);
        due("the greatest then", game.best(), 2);
    }

    private static void promise14BestOfAKind() {
        BridgedPachisi game = laid(0, 1, 1, 17, 2, 17);
        Check.castIs(game, 5);
        due("the lowest of the greatest progress", game.best(), 1);
        lay(game, 1, NONE, 2, NONE);
        due("the yard is the least", game.best(), 0);
        lay(game, 0, NONE);
        due("the lowest of the yard", game.best(), 0);
        lay(game, 1, 0);
        due("a progress of 0 is more than the yard, and no pair is made", game.best(), 0);
        lay(game, 1, NONE, 0, 35);
        due("the lowest of two in the yard", game.best(), 1);
        game = laid(0, 33, 1, 29, 2, 34);
        Check.castIs(game, 6);
        due("only one can come home", game.best(), 1);
        game = laid(1, 0, 2, 25);
        Check.castIs(game, 5);
        due("comes in to a pair", game.best(), 0);
        game = laid(0, 28, 1, 30, 2, 33);
        Check.castIs(game, 3);
        due("two in the lane are no pair", game.best(), 1);
        lay(game, 1, 26);
        due("the greatest", game.best(), 0);
        game = laid(0, 1, 1, 17, 2, 2, 3, 30, 6, 6);
        Check.castIs(game, 5);
        due("the greatest of two that send back", game.best(), 1);
        lay(game, 1, 18);
        due("one sends back", game.best(), 0);
        lay(game, 3, 31);
        due("the other of them", game.best(), 2);
    }

    private static void promise15Needs() {
        BridgedPachisi game = new BridgedPachisi();
        due("needs(-1, 5)", game.needs(-1, 5), NO_SUCH);
        due("needs(12, 0)", game.needs(12, 0), NO_SUCH);
        for (int wild : WILD) {
            due("needs(0, " + wild + ")", game.needs(0, wild), BAD_VALUE);
            due("needs(" + wild + ", 0)", game.needs(wild, 0), NO_SUCH);
        }
        due("needs(0, 2)", game.needs(0, 2), BAD_VALUE);
        due("from the yard", game.needs(0, 0), 7);
        due("from the yard, wide", game.needs(0, 1), 7);
        for (int progress = 0; progress <= 35; progress++) {
            lay(game, 5, progress);
            due("from " + progress, game.needs(5, 0), (35 - progress + 5) / 6);
            due("from " + progress + ", wide", game.needs(5, 1), (35 - progress + 5) / 6);
        }
        game = laid(3, 2, 4, 2, 0, 9, 1, 11, 2, 11);
        due("no other pieces count", game.needs(0, 0), 5);
        due("no other pieces count, wide", game.needs(0, 1), 5);
        lay(game, 1, 8);
        game.set(BridgedPachisi.ENTERS, 6);
        due("ENTERS 6", game.needs(6, 0), 7);
        due("nothing changes", game.piece(0, 0), 9);
    }

    private static void promise15NeedsAgainstSearch() {
        for (int fallen = 0; fallen < 16; fallen++) {
            for (int piece = 0; piece < 12; piece++) {
                needsOfPiece(fallen, piece);
            }
        }
    }

    private static void needsOfPiece(int fallen, int piece) {
        BridgedPachisi game = new BridgedPachisi();
        for (int bridge = 0; bridge < 4; bridge++) {
            if ((fallen >> bridge & 1) == 1) {
                lay(game, 0, 8 * bridge + 4, 1, 8 * bridge + 4, 0, NONE, 1, NONE);
            }
        }
        due("the set", game.count(14), fallen);
        int player = piece / 3;
        due("yard", game.needs(piece, 0), 1 + searched(fallen, player, 0));
        due("yard, wide", game.needs(piece, 1), 1 + searched(fallen, player, 0));
        for (int progress = 0; progress <= 35; progress++) {
            if (!isFallen(fallen, player, progress)) {
                game.lay(piece, progress);
                int want = searched(fallen, player, progress);
                due("needs from " + progress, game.needs(piece, 0), want);
                due("needs from " + progress + ", wide", game.needs(piece, 1), want);
            }
        }
    }

    /** Told by a third way: the cost of the whole way, each throw as far as it leads. */
    private static int searched(int fallen, int player, int from) {
        java.util.Set<Integer> reached = java.util.Set.of(from);
        int casts = 0;
        while (!reached.contains(35)) {
            java.util.Set<Integer> next = new java.util.TreeSet<>();
            for (int at : reached) {
                for (int to = at + 1; to <= Math.min(at + 6, 35); to++) {
                    int cost = 0;
                    for (int step = at + 1; step <= to; step++) {
                        cost += isFallen(fallen, player, step) ? 2 : 1;
                    }
                    if (cost <= 6 && !isFallen(fallen, player, to)) {
                        next.add(to);
                    }
                }
            }
            reached = next;
            casts++;
        }
        return casts;
    }

    private static boolean isFallen(int fallen, int player, int progress) {
        return progress < 32 && progress % 8 == 4 && (fallen >> (8 * player + progress) % 32 / 8 & 1) == 1;
    }

    private static void promise16NextCast() {
        BridgedPachisi game = new BridgedPachisi();
        due("nextCast(-1)", game.nextCast(-1), BAD_VALUE);
        due("nextCast(100)", game.nextCast(100), BAD_VALUE);
        due("nextCast of the most", game.nextCast(Integer.MAX_VALUE), BAD_VALUE);
        due("nextCast of the least", game.nextCast(Integer.MIN_VALUE), BAD_VALUE);
        for (int number : new int[] {0, 1, 12345, 65536, Integer.MAX_VALUE}) {
            game = new BridgedPachisi();
            game.seed(number);
            long x = number;
            for (int ahead = 0; ahead < 100; ahead++) {
                due("nextCast(" + ahead + ")", game.nextCast(ahead), Check.castBehind(x));
                x = Check.nextX(x);
            }
            due("nothing changes", game.count(3), number);
        }
        game.seed(1);
        int second = game.nextCast(1);
        game.cast();
        due("with a throw: the one behind it", game.nextCast(0), second);
        lay(game, 0, 35, 1, 35, 2, 35);
        due("also when the game is over", game.nextCast(0), second);
    }

    private static void promise17UntilOver() {
        for (int number = 1; number <= 30; number++) {
            BridgedPachisi game = new BridgedPachisi();
            game.seed(number);
            game.set(BridgedPachisi.ENTERS, 1 + number % 6);
            game.set(BridgedPachisi.MENDS, number % 5);
            int foretold = game.untilOver();
            due("x as before", game.count(3), number);
            due("nothing changes", game.count(6), 1);
            due("no change", game.count(17), 3);
            int made = 0;
            while (made < 400 && game.play(1) == 1) {
                made++;
            }
            due("as play() goes", foretold, game.count(8) == NONE ? NONE : made);
            if (game.count(8) != NONE) {
                due("0 if it is over", game.untilOver(), 0);
            }
        }
        BridgedPachisi game = laid(0, 35, 1, 35, 2, 34);
        game.seed(Check.seedFor(1));
        due("1", game.untilOver(), 1);
        game.cast();
        due("with a throw", game.untilOver(), NOT_POSSIBLE);
        game.lay(2, 35);
        due("with a throw when it is over", game.untilOver(), NOT_POSSIBLE);
        game.skip();
        due("over", game.untilOver(), 0);
        notWithin400();
    }

    /** Games that end with the throws 400 and 401 are sought, so that the edge itself is met. */
    private static void notWithin400() {
        boolean[] met = new boolean[402];
        for (int number = 1; number < 100000 && !(met[400] && met[401]); number++) {
            BridgedPachisi game = new BridgedPachisi();
            game.set(BridgedPachisi.ENTERS, 1);
            game.seed(number);
            int foretold = game.untilOver();
            int made = 0;
            for (int i = 0; i < 4; i++) {
                made += game.play(100) == 100 ? 100 : 0;
            }
            if (foretold == 400) {
                met[400] = true;
                due("four hundred throws", made, 400);
                CHECK.holds("over just then", game.count(8) != NONE);
            } else if (foretold == NONE) {
                due("not over", game.count(8), NONE);
                met[401] |= game.play(1) == 1 && game.count(8) != NONE;
            }
        }
        CHECK.holds("a game that ends with the throw 400 was met", met[400]);
        CHECK.holds("a game that ends with the throw 401 was met", met[401]);
    }
}
