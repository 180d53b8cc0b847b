/** Promises 1 to 9: a new object, set, seed, cast, move, skip, play, read, lay. */
public final class ChangesTest {
    private static final int NO_SUCH = Check.NO_SUCH, BAD_VALUE = Check.BAD_VALUE, BAD_TEXT = Check.BAD_TEXT;
    private static final int NOT_POSSIBLE = Check.NOT_POSSIBLE, NONE = Check.NONE;
    private static final Check CHECK = new Check("ChangesTest");

    public static void main(String[] args) {
        promise1NewObject();
        promise2Set();
        promise2SettingsAct();
        promise3Seed();
        promise4Cast();
        promise4Agains();
        promise4AfterTheGame();
        promise5Errors();
        promise5ComesInAndGoesOn();
        promise5SendsBack();
        promise5AroundFallenBridge();
        promise5LastMove();
        promise5BridgesFall();
        promise6Skip();
        promise6SkipWhenOver();
        promise7Play();
        promise7PlayByHand();
        promise8Read();
        promise8ReadStops();
        promise8ReadUntilOver();
        promise9Lay();
        promise9LayNotPossible();
        promise9LayBridges();
        promise9LayEndsTheGame();
        mending();
        CHECK.end();
    }

    private static void due(String call, long got, long want) {
        CHECK.due(call, got, want);
    }

    private static void promise1NewObject() {
        BridgedPachisi game = new BridgedPachisi();
        for (int piece = 0; piece < 12; piece++) {
            due("new: piece(" + piece + ", 0)", game.piece(piece, 0), NONE);
        }
        int[] counts = {5, 0, 1, 1, 0, NONE, 1, 0, NONE, 0, 0, 0, 0, 0, 0, 0, 0, 0};
        for (int what = 0; what < counts.length; what++) {
            due("new: count(" + what + ")", game.count(what), counts[what]);
        }
        for (int field = 0; field < 32; field++) {
            due("new: field(" + field + ", 0)", game.field(field, 0), 0);
            due("new: field(" + field + ", 3)", game.field(field, 3), field % 8 == 4 ? 1 : 0);
        }
    }

    private static void promise2Set() {
        BridgedPachisi game = new BridgedPachisi();
        int[] least = {1, 0, 0};
        int[] greatest = {6, 40, 3};
        int[] first = {5, 0, 1};
        for (int setting = 0; setting < 3; setting++) {
            due("set below", game.set(setting, least[setting] - 1), BAD_VALUE);
            due("set above", game.set(setting, greatest[setting] + 1), BAD_VALUE);
            due("set far below", game.set(setting, Integer.MIN_VALUE), BAD_VALUE);
            due("set far above", game.set(setting, Integer.MAX_VALUE), BAD_VALUE);
            due("set least", game.set(setting, least[setting]), first[setting]);
            due("set greatest", game.set(setting, greatest[setting]), least[setting]);
            due("setting then", game.count(setting), greatest[setting]);
        }
        due("set of no setting", game.set(-1, 1), BAD_VALUE);
        due("set of no setting", game.set(3, 1), BAD_VALUE);
        due("set of no setting", game.set(Integer.MAX_VALUE, 1), BAD_VALUE);
        due("set of no setting", game.set(Integer.MIN_VALUE, 1), BAD_VALUE);
        due("six changes, no more", game.count(17), 6);
    }

    private static void promise2SettingsAct() {
        BridgedPachisi game = new BridgedPachisi();
        for (int enters = 1; enters <= 6; enters++) {
            game.set(BridgedPachisi.ENTERS, enters);
            for (int cast = 1; cast <= 6; cast++) {
                due("why in the yard, ENTERS " + enters, game.why(7, cast), cast < enters ? 2 : 0);
            }
        }
        game.set(BridgedPachisi.ENTERS, 6);
        Check.castIs(game, 5);
        due("not with ENTERS 6", game.move(0), NOT_POSSIBLE);
        game.set(BridgedPachisi.ENTERS, 4);
        due("the set acts on the throw that there is", game.move(0), 0);
    }

    private static void promise3Seed() {
        BridgedPachisi game = new BridgedPachisi();
        due("seed(777)", game.seed(777), 1);
        due("seed(0)", game.seed(0), 777);
        due("seed of the most", game.seed(Integer.MAX_VALUE), 0);
        due("x", game.count(3), Integer.MAX_VALUE);
        due("seed(-1)", game.seed(-1), BAD_VALUE);
        due("seed of the least", game.seed(Integer.MIN_VALUE), BAD_VALUE);
        due("x as before", game.count(3), Integer.MAX_VALUE);
        due("three changes", game.count(17), 3);
        due("the throw by it", game.cast(), Check.castBehind(Integer.MAX_VALUE));
        due("x by it", game.count(3), Check.nextX(Integer.MAX_VALUE));
    }

    private static void promise4Cast() {
        BridgedPachisi game = new BridgedPachisi();
        due("no throw yet", game.count(5), NONE);
        due("cast()", game.cast(), 3);
        due("the throw", game.count(5), 3);
        due("throws of this turn", game.count(7), 1);
        due("x", game.count(3), 1103527590);
        due("cast() again", game.cast(), NOT_POSSIBLE);
        due("x as before", game.count(3), 1103527590);
        due("throws as before", game.count(7), 1);
        due("one change", game.count(17), 1);
        due("skip()", game.skip(), 1);
        due("throws of the new turn", game.count(7), 0);
        due("turns", game.count(6), 2);
        due("cast() of the next", game.cast(), Check.castBehind(1103527590));
    }

    private static void promise4Agains() {
        for (int agains = 0; agains <= 3; agains++) {
            BridgedPachisi game = new BridgedPachisi();
            game.set(BridgedPachisi.AGAINS, agains);
            game.lay(0, 0);
            for (int six = 1; six <= agains; six++) {
                Check.castIs(game, 6);
                game.move(0);
                due("again behind six " + six, game.count(4), 0);
                due("no throw then", game.count(5), NONE);
                due("throws of this turn", game.count(7), six);
                due("turns", game.count(6), 1);
            }
            Check.castIs(game, 6);
            due("throws of this turn", game.count(7), agains + 1);
            game.move(0);
            due("the next player behind the last six", game.count(4), 1);
            due("throws of the new turn", game.count(7), 0);
            due("turns", game.count(6), 2);
        }
        BridgedPachisi game = new BridgedPachisi();
        game.set(BridgedPachisi.AGAINS, 3);
        due("6, 6, then 1", Check.readText(game, "6a6a1a"), 3);
        due("the turn ends behind 1", game.count(4), 1);
        due("a six behind passing", Check.readText(game, "1-1-1-"), 3);
        game.set(BridgedPachisi.ENTERS, 6);
        game.lay(0, 33);
        game.lay(1, 33);
        game.lay(2, 34);
        Check.castIs(game, 6);
        due("passing with a six gives another throw", game.skip(), 0);
        due("same turn", game.count(7), 1);
    }

    private static void promise4AfterTheGame() {
        BridgedPachisi game = new BridgedPachisi();
        game.lay(3, 35);
        game.lay(4, 35);
        game.lay(5, 35);
        due("cast() when the game is over", game.cast(), NOT_POSSIBLE);
        due("x as before", game.count(3), 1);
        game.lay(4, 34);
        due("cast() when the end is taken back", game.cast(), 3);
    }

    private static void promise5Errors() {
        BridgedPachisi game = new BridgedPachisi();
        due("move(-1)", game.move(-1), NO_SUCH);
        due("move(3)", game.move(3), NO_SUCH);
        due("move of the most", game.move(Integer.MAX_VALUE), NO_SUCH);
        due("move of the least", game.move(Integer.MIN_VALUE), NO_SUCH);
        due("move without a throw", game.move(0), NOT_POSSIBLE);
        Check.castIs(game, 4);
        due("move(3) with a throw", game.move(3), NO_SUCH);
        due("move out of the yard by 4", game.move(0), NOT_POSSIBLE);
        due("the throw stays", game.count(5), 4);
        due("two changes", game.count(17), 2);
    }

    private static void promise5ComesInAndGoesOn() {
        for (int player = 0; player < 4; player++) {
            BridgedPachisi game = Check.turnOf(player);
            Check.castIs(game, 5);
            due("comes in", game.move(1), 0);
            due("field", game.piece(3 * player + 1, 1), 8 * player);
            due("next", game.count(4), (player + 1) % 4);
            due("turns", game.count(6), player + 2);
            game = Check.turnOf(player);
            game.lay(3 * player + 2, 30);
            Check.castIs(game, 4);
            due("goes into the lane", game.move(2), 34);
            due("no field in the lane", game.piece(3 * player + 2, 1), NONE);
            game = Check.turnOf(player);
            game.lay(3 * player, 31);
            Check.castIs(game, 4);
            due("comes home", game.move(0), 35);
            due("pieces at home", game.count(9 + player), 1);
            game = Check.turnOf(player);
            game.lay(3 * player, 27);
            Check.castIs(game, 1);
            due("goes around the ring", game.move(0), 28);
            due("field", game.piece(3 * player, 1), (8 * player + 28) % 32);
        }
    }

    private static void promise5SendsBack() {
        BridgedPachisi game = new BridgedPachisi();
        game.lay(0, 9);
        game.lay(3, 2);
        game.lay(4, 3);
        Check.castIs(game, 2);
        due("goes by one, and comes to another", game.move(0), 11);
        due("that one is sent back", game.piece(4, 0), NONE);
        due("the one gone by is not", game.piece(3, 0), 2);
        due("how often", game.piece(4, 3), 1);
        due("how often the other", game.piece(3, 3), 0);
        due("in all", game.count(13), 1);
        game.lay(4, 32);
        // The field 9, to which a 33rd step would lead if the ring went on.
        game.lay(6, 25);
        due("into the lane", Check.readText(game, "1b"), 1);
        due("progress", game.piece(4, 0), 33);
        due("nobody is sent back from the ring by it", game.piece(6, 0), 25);
        due("in all", game.count(13), 1);
    }

    private static void promise5AroundFallenBridge() {
        BridgedPachisi game = new BridgedPachisi();
        fell(game, 1);
        game.lay(0, 11);
        Check.castIs(game, 3);
        due("by 3 to the field behind the fallen bridge", game.move(0), 13);
        game = new BridgedPachisi();
        fell(game, 1);
        game.lay(0, 11);
        Check.castIs(game, 2);
        due("cannot stop on it", game.move(0), NOT_POSSIBLE);
        game = new BridgedPachisi();
        fell(game, 1);
        game.lay(0, 10);
        Check.castIs(game, 2);
        due("1 left ahead of it", game.move(0), NOT_POSSIBLE);
        game = new BridgedPachisi();
        fell(game, 1);
        game.lay(0, 10);
        Check.castIs(game, 1);
        due("up to it", game.move(0), 11);
    }

    /** Makes the bridge fall by pieces of player 2, which are in the yard again then. */
    private static void fell(BridgedPachisi game, int bridge) {
        int progress = (8 * bridge + 4 + 16) % 32;
        game.lay(6, progress);
        game.lay(7, progress);
        game.lay(6, NONE);
        game.lay(7, NONE);
        due("field(.., 3) of the fallen one", game.field(8 * bridge + 4, 3), 3);
    }

    private static void promise5LastMove() {
        BridgedPachisi game = new BridgedPachisi();
        game.lay(0, 35);
        game.lay(1, 35);
        game.lay(2, 33);
        Check.castIs(game, 2);
        due("the last one comes home", game.move(2), 35);
        due("the winner", game.count(8), 0);
        due("no turn begins", game.count(6), 1);
        due("whose turn", game.count(4), 0);
        due("no throw", game.count(5), NONE);
        due("cast()", game.cast(), NOT_POSSIBLE);
        game.lay(2, 30);
        due("the end is taken back", game.count(8), NONE);
        due("the same turn", game.count(4), 0);
        Check.castIs(game, 1);
        due("throws of this turn", game.count(7), 2);
        game.lay(9, 35);
        game.lay(10, 35);
        game.lay(11, 35);
        due("another has won", game.count(8), 3);
        due("the throw can be used still", game.move(2), 31);
        due("no turn begins", game.count(4), 0);
        due("turns", game.count(6), 1);
        due("the throw is used", game.count(5), NONE);
    }

    private static void promise5BridgesFall() {
        BridgedPachisi game = Check.turnOf(3);
        game.lay(0, 4);
        game.lay(1, 4);
        game.lay(0, 5);
        game.lay(9, 10);
        due("strained still with one piece", game.field(4, 3), 2);
        due("player 3 sends the one back", Check.readText(game, "2a"), 1);
        due("sent back", game.piece(1, 0), NONE);
        due("a piece stands there: it does not fall", game.field(4, 3), 2);
        due("strained without a pair", game.piece(9, 2), 0);
        due("none fell", game.count(15), 0);
        due("round to player 3", Check.readText(game, "1a1-1-1a"), 4);
        due("it falls behind the last piece", game.field(4, 3), 3);
        due("as a set", game.count(14), 1);
        due("fell so far", game.count(15), 1);
        due("not strained then", game.field(4, 4), NONE);

        game = new BridgedPachisi();
        game.lay(0, 19);
        game.lay(1, 20);
        Check.castIs(game, 1);
        due("a pair by a move", game.move(0), 20);
        due("strained at once", game.field(20, 3), 2);
    }

    private static void promise6Skip() {
        BridgedPachisi game = new BridgedPachisi();
        due("skip without a throw", game.skip(), NOT_POSSIBLE);
        Check.castIs(game, 5);
        due("skip when a piece can be moved", game.skip(), NOT_POSSIBLE);
        due("two changes", game.count(17), 2);
        for (int player = 0; player < 4; player++) {
            game = Check.turnOf(player);
            Check.castIs(game, 1);
            due("skip()", game.skip(), (player + 1) % 4);
            due("whose turn", game.count(4), (player + 1) % 4);
            due("turns", game.count(6), player + 2);
            due("throw", game.count(5), NONE);
            due("skip() again", game.skip(), NOT_POSSIBLE);
        }
        game = new BridgedPachisi();
        game.lay(2, 30);
        Check.castIs(game, 3);
        due("the last piece alone can be moved", game.skip(), NOT_POSSIBLE);
        due("the throw stays", game.count(5), 3);
    }

    private static void promise6SkipWhenOver() {
        BridgedPachisi game = new BridgedPachisi();
        Check.castIs(game, 1);
        game.lay(0, 35);
        game.lay(1, 35);
        game.lay(2, 35);
        due("skip() when the game is over", game.skip(), 0);
        due("no turn begins", game.count(6), 1);
        due("the throw is used", game.count(5), NONE);
        due("skip() again", game.skip(), NOT_POSSIBLE);
    }

    private static void promise7Play() {
        BridgedPachisi game = new BridgedPachisi();
        due("play(0)", game.play(0), BAD_VALUE);
        due("play(-1)", game.play(-1), BAD_VALUE);
        due("play(101)", game.play(101), BAD_VALUE);
        due("play(most)", game.play(Integer.MAX_VALUE), BAD_VALUE);
        due("play(least)", game.play(Integer.MIN_VALUE), BAD_VALUE);
        due("play(1)", game.play(1), 1);
        due("x", game.count(3), 1103527590);
        due("turn", game.count(4), 1);
        due("one change", game.count(17), 1);
        due("play(100)", game.play(100), 100);
        due("two changes", game.count(17), 2);
        while (game.count(8) == NONE && game.count(6) < 2000) {
            game.play(100);
        }
        due("play() when over", game.play(1), NOT_POSSIBLE);
        due("play(0) when over", game.play(0), BAD_VALUE);

        game = new BridgedPachisi();
        game.lay(0, 35);
        game.lay(1, 35);
        game.lay(2, 34);
        game.seed(Check.seedFor(1));
        due("play() until the game is over", game.play(100), 1);
        due("the winner", game.count(8), 0);
        game.lay(2, 34);
        game.cast();
        due("play() with a throw", game.play(1), NOT_POSSIBLE);
        due("play(101) with a throw", game.play(101), BAD_VALUE);
    }

    /** play() does just what cast(), best(), move() and skip() do. */
    private static void promise7PlayByHand() {
        for (int number = 1; number <= 40; number++) {
            BridgedPachisi played = new BridgedPachisi();
            BridgedPachisi byHand = new BridgedPachisi();
            played.seed(number);
            byHand.seed(number);
            int casts = 1 + number * 7 % 100;
            due("play(" + casts + ")", played.play(casts), casts);
            for (int i = 0; i < casts; i++) {
                byHand.cast();
                int best = byHand.best();
                if (best == NONE) {
                    byHand.skip();
                } else {
                    byHand.move(best);
                }
            }
            for (int what = 0; what < 16; what++) {
                due("count(" + what + ") by hand", played.count(what), byHand.count(what));
            }
            for (int piece = 0; piece < 12; piece++) {
                due("piece(" + piece + ", 0) by hand", played.piece(piece, 0), byHand.piece(piece, 0));
            }
        }
    }

    private static void promise8Read() {
        BridgedPachisi game = new BridgedPachisi();
        due("read() of an empty pad", game.read(), BAD_TEXT);
        Check.write(game, "5a7b");
        due("read() of a fault", game.read(), BAD_TEXT);
        due("the pad stays", game.count(16), 4);
        due("nothing is moved", game.piece(0, 0), NONE);
        due("no change", game.count(17), 0);
        game.cast();
        due("BAD_TEXT ahead of NOT_POSSIBLE", game.read(), BAD_TEXT);
        game.wipe();
        Check.write(game, "5a");
        due("read() with a throw", game.read(), NOT_POSSIBLE);
        due("the pad stays", game.count(16), 2);
        game.skip();
        due("read()", game.read(), 1);
        due("the pad is empty", game.count(16), 0);
        due("player 1 came in", game.piece(3, 0), 0);
        due("x is not changed by it", game.count(3), 1103527590);
        due("no throw", game.count(5), NONE);
        due("three changes", game.count(17), 3);

        game = new BridgedPachisi();
        game.set(BridgedPachisi.AGAINS, 3);
        due("read() of sixes", Check.readText(game, "6c6c"), 2);
        due("throws of this turn", game.count(7), 2);
        due("same turn", game.count(4), 0);
        due("progress", game.piece(2, 0), 6);
        due("one change each", game.count(17), 2);

        game = new BridgedPachisi();
        game.lay(0, 33);
        game.lay(1, 33);
        game.lay(2, 34);
        due("passing by a six", Check.readText(game, "6-"), 1);
        due("another throw", game.count(4), 0);
        due("throws of this turn", game.count(7), 1);
        due("passing by a second six", Check.readText(game, "6-"), 1);
        due("the next player", game.count(4), 1);

        game = Check.turnOf(3);
        game.lay(0, 9);
        game.lay(9, 14);
        due("read() sends back, too", Check.readText(game, "3a"), 1);
        due("piece 0", game.piece(0, 0), NONE);
        due("once", game.piece(0, 3), 1);
        due("in all", game.count(13), 1);
    }

    private static void promise8ReadStops() {
        BridgedPachisi game = new BridgedPachisi();
        due("up to a piece that cannot be moved", Check.readText(game, "5a4a5b"), 1);
        due("its throw is not made", game.count(7), 0);
        due("nor is there one", game.count(5), NONE);
        due("whose turn", game.count(4), 1);
        due("the pad is empty", game.count(16), 0);
        due("passing when a piece can be moved", Check.readText(game, "5-"), 0);
        due("whose turn", game.count(4), 1);
        due("throws", game.count(7), 0);
        due("also a change", game.count(17), 2);
        due("passing when none can be moved", Check.readText(game, "4-4-4-1-"), 3);
        due("player 0 can move", game.count(4), 0);
        due("undo() does not bring the pad back", game.undo(), 2);
        due("the pad", game.count(16), 0);
    }

    private static void promise8ReadUntilOver() {
        BridgedPachisi game = new BridgedPachisi();
        game.lay(0, 35);
        game.lay(1, 35);
        game.lay(2, 34);
        due("until the game is over", Check.readText(game, "1c1-1-"), 1);
        due("the winner", game.count(8), 0);
        due("the pad is empty", game.count(16), 0);
        due("when it is over", Check.readText(game, "1-"), 0);
        due("the pad is empty", game.count(16), 0);
        due("also a change", game.count(17), 5);
        due("a fault when it is over", Check.readText(game, "1"), BAD_TEXT);
    }

    private static void promise9Lay() {
        BridgedPachisi game = new BridgedPachisi();
        due("lay(-1, 0)", game.lay(-1, 0), NO_SUCH);
        due("lay(12, 0)", game.lay(12, 0), NO_SUCH);
        due("lay(12, 36)", game.lay(12, 36), NO_SUCH);
        due("lay(most, 0)", game.lay(Integer.MAX_VALUE, 0), NO_SUCH);
        due("lay(least, 0)", game.lay(Integer.MIN_VALUE, 0), NO_SUCH);
        for (int bad : new int[] {-1, -2, -5, -7, 36, Integer.MAX_VALUE, Integer.MIN_VALUE}) {
            due("lay(0, " + bad + ")", game.lay(0, bad), BAD_VALUE);
        }
        due("no change", game.count(17), 0);
        due("in the yard already", game.lay(11, NONE), NONE);
        due("a change although nothing is different", game.count(17), 1);
        for (int piece = 0; piece < 12; piece++) {
            game = new BridgedPachisi();
            int before = NONE;
            for (int progress = 0; progress <= 35; progress++) {
                due("lay(" + piece + ", " + progress + ")", game.lay(piece, progress), before);
                due("its progress", game.piece(piece, 0), progress);
                before = progress;
            }
            due("lay back", game.lay(piece, NONE), 35);
            due("nobody was sent back", game.count(13), 0);
            due("it is no move", game.count(6), 1);
        }
    }

    private static void promise9LayNotPossible() {
        BridgedPachisi game = new BridgedPachisi();
        game.lay(3, 1);
        due("on a piece of another player", game.lay(0, 9), NOT_POSSIBLE);
        due("others stay", game.piece(3, 0), 1);
        due("next to it", game.lay(0, 10), NONE);
        due("a second one", game.lay(1, 10), NONE);
        due("a third one", game.lay(2, 10), NOT_POSSIBLE);
        due("one of them to where it stands", game.lay(0, 10), 10);
        due("others stay", game.piece(1, 0), 10);
        game.lay(0, 33);
        game.lay(1, 33);
        due("a third one in the lane", game.lay(2, 33), NOT_POSSIBLE);
        due("another's lane is another place", game.lay(3, 33), 1);
        due("a third one at home", game.lay(0, 35) + game.lay(1, 35) + game.lay(2, 35), 33 + 33 + NONE);
        due("all at home", game.count(9), 3);
        due("all in the yard", game.lay(0, NONE) + game.lay(1, NONE) + game.lay(2, NONE), 105);
        fell(game, 3);
        int changes = game.count(17);
        due("on a fallen bridge", game.lay(0, 28), NOT_POSSIBLE);
        due("on it by another player", game.lay(3, 20), NOT_POSSIBLE);
        due("ahead of it", game.lay(0, 27), NONE);
        due("changes", game.count(17), changes);
        due("lane: no bridge, no safe field, no ring", game.lay(0, 32), 27);
        game.lay(4, 24);
        due("the lane ends where player 1 stands", game.piece(4, 1), 0);
        due("lay into the lane", game.lay(1, 32), NONE);
    }

    private static void promise9LayBridges() {
        BridgedPachisi game = new BridgedPachisi();
        game.lay(0, 12);
        due("one piece strains nothing", game.field(12, 3), 1);
        game.lay(0, 13);
        due("nor makes it fall", game.field(12, 3), 1);
        game.lay(0, 12);
        game.lay(1, 12);
        due("strained by a pair", game.field(12, 3), 2);
        game.lay(1, NONE);
        due("strained behind one", game.field(12, 3), 2);
        game.lay(0, 12);
        due("laid where it stands", game.field(12, 3), 2);
        game.lay(0, 35);
        due("fallen behind both", game.field(12, 3), 3);
        due("the set", game.count(14), 2);
        due("fell so far", game.count(15), 1);
        due("others stand", game.field(4, 3) + game.field(20, 3) + game.field(28, 3), 3);
        game.lay(0, 20);
        game.lay(2, 20);
        game.lay(0, 28);
        game.lay(2, 28);
        due("one falls, another is strained", game.field(20, 3) * 10 + game.field(28, 3), 32);
        due("the set", game.count(14), 6);
        due("fell so far", game.count(15), 2);
    }

    private static void promise9LayEndsTheGame() {
        BridgedPachisi game = new BridgedPachisi();
        for (int piece = 6; piece < 12; piece++) {
            game.lay(piece, 35);
        }
        due("of several the lowest", game.count(8), 2);
        game.lay(7, 0);
        due("the other then", game.count(8), 3);
        game.lay(9, 0);
        due("none then", game.count(8), NONE);
    }

    private static void mending() {
        for (int mends = 0; mends <= 3; mends++) {
            BridgedPachisi game = new BridgedPachisi();
            game.set(BridgedPachisi.MENDS, mends);
            Check.readText(game, "1-1-");
            fell(game, 0);
            for (int turn = 1; turn <= 5; turn++) {
                due("mended with", game.field(4, 4), mends == 0 || turn > mends ? NONE : mends - turn + 1);
                due("fallen", game.field(4, 3), mends == 0 || turn <= mends ? 3 : 1);
                Check.readText(game, "1-");
            }
            due("fell so far", game.count(15), 1);
        }
        BridgedPachisi game = new BridgedPachisi();
        game.set(BridgedPachisi.MENDS, 40);
        fell(game, 2);
        Check.readText(game, "1-1-1-");
        due("37 more", game.field(20, 4), 37);
        game.set(BridgedPachisi.MENDS, 1);
        due("1 at least", game.field(20, 4), 1);
        due("not mended ahead of a turn", game.field(20, 3), 3);
        Check.readText(game, "1-");
        due("mended", game.field(20, 3), 1);
        due("the set", game.count(14), 0);

        game = new BridgedPachisi();
        game.set(BridgedPachisi.MENDS, 1);
        game.lay(0, 4);
        game.lay(1, 4);
        game.lay(1, 35);
        Check.readText(game, "6a");
        due("fallen in the same turn still", game.field(4, 3), 3);
        Check.readText(game, "1a");
        due("mended as the next turn begins", game.field(4, 3), 1);
    }
}
