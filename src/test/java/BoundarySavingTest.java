import java.util.List;
import java.util.function.Consumer;
import java.util.function.ToLongFunction;

/** Boundaries of the promises 21 to 23, and of the 512 calls, a method for each sentence that names one. */
public final class BoundarySavingTest {
    private static final int BAD_VALUE = Check.BAD_VALUE, NOT_POSSIBLE = Check.NOT_POSSIBLE, NONE = Check.NONE;
    private static final int LEAST = Integer.MIN_VALUE, MOST = Integer.MAX_VALUE;
    private static final Check CHECK = new Check("BoundarySavingTest");

    public static void main(String[] args) {
        promise21NotPossible();
        promise21AtMostSix();
        promise21TheOldestIsDropped();
        promise21NothingIsDoneAgain();
        promise21EachChange();
        promise21AlsoIfNothingIsDifferent();
        promise21NoChange();
        promise21ExceptThePad();
        promise21ExceptTheSlots();
        promise21WhenABridgeFell();
        promise22Slots();
        promise22Overwrites();
        promise22IsNoChange();
        promise23Errors();
        promise23KeepsIt();
        promise23IsAChange();
        promise23ExceptPadAndHistory();
        promise23EndOfAGame();
        fiveHundredAndTwelveCalls();
        CHECK.end();
    }

    private static void due(String call, long got, long want) {
        CHECK.due(call, got, want);
    }

    /** Promise 21: "NOT_POSSIBLE if there is none." */
    private static void promise21NotPossible() {
        CHECK.stays("undo() of nothing", game -> {
        }, game -> game.undo(), NOT_POSSIBLE);
        CHECK.stays("undo() of nothing, with a pad and slots", game -> {
            Check.write(game, "5a5");
            game.save(1);
        }, game -> game.undo(), NOT_POSSIBLE);
        CHECK.stays("undo() behind as many as there were", game -> {
            Scenes.rich(game);
            for (int i = 0; i < 6; i++) {
                game.undo();
            }
        }, game -> game.undo(), NOT_POSSIBLE);
    }

    /** Promise 21: "A history of at most 6 states is kept"; "Returns how many changes can be undone then". */
    private static void promise21AtMostSix() {
        for (int changes = 0; changes <= 9; changes++) {
            BridgedPachisi game = new BridgedPachisi();
            for (int number = 1; number <= changes; number++) {
                game.seed(100 + number);
            }
            int kept = Math.min(changes, 6);
            due("changes that can be undone", game.count(17), kept);
            for (int left = kept - 1; left >= 0; left--) {
                due("undo()", game.undo(), left);
                due("changes that can be undone", game.count(17), left);
                int before = changes - kept + left;
                due("x", game.count(3), before == 0 ? 1 : 100 + before);
            }
            due("undo()", game.undo(), NOT_POSSIBLE);
        }
    }

    /** Promise 21: "when one more is recorded, the oldest one is dropped", also behind undo(). */
    private static void promise21TheOldestIsDropped() {
        for (int undone = 0; undone <= 6; undone++) {
            BridgedPachisi game = new BridgedPachisi();
            for (int number = 10; number <= 19; number++) {
                game.seed(number);
            }
            for (int i = 0; i < undone; i++) {
                game.undo();
            }
            for (int number = 20; number <= 22; number++) {
                game.seed(number);
            }
            int kept = Math.min(6 - undone + 3, 6);
            due("changes that can be undone", game.count(17), kept);
            int[] xs = {21, 20, 19 - undone, 18 - undone, 17 - undone, 16 - undone};
            for (int i = 0; i < kept; i++) {
                due("undo()", game.undo(), kept - 1 - i);
                due("x", game.count(3), xs[i]);
            }
            due("undo()", game.undo(), NOT_POSSIBLE);
        }
    }

    /** Promise 21: undo() is no change itself: another one goes on to the state before. */
    private static void promise21NothingIsDoneAgain() {
        BridgedPachisi game = new BridgedPachisi();
        game.seed(2);
        game.seed(3);
        due("undo()", game.undo(), 1);
        due("x", game.count(3), 2);
        due("undo()", game.undo(), 0);
        due("x", game.count(3), 1);
        due("undo()", game.undo(), NOT_POSSIBLE);
    }

    private static void oneChange(String call, Consumer<BridgedPachisi> scene, ToLongFunction<BridgedPachisi> change) {
        BridgedPachisi game = new BridgedPachisi();
        scene.accept(game);
        int changes = game.count(17);
        List<Integer> before = Whole.stateOf(game);
        long answer = change.applyAsLong(game);
        CHECK.holds(call + " is no error", answer >= 0 || answer == NONE);
        due("changes that can be undone behind " + call, game.count(17), Math.min(changes + 1, 6));
        due("undo() of " + call, game.undo(), Math.min(changes, 5));
        CHECK.holds("all is as before " + call, Whole.stateOf(game).equals(before));
    }

    /** Promise 21: "each method that is a change, and returns no error, records the state before it". */
    private static void promise21EachChange() {
        for (Consumer<BridgedPachisi> filled : List.<Consumer<BridgedPachisi>>of(game -> {
        }, game -> game.seed(4), Scenes::rich)) {
            Consumer<BridgedPachisi> with3 = filled.andThen(game -> {
                Scenes.lay(game, 0, 5);
                Check.castIs(game, 3);
            });
            oneChange("set", filled, game -> game.set(BridgedPachisi.MENDS, 2));
            oneChange("seed", filled, game -> game.seed(77));
            oneChange("cast", filled, game -> game.cast());
            oneChange("move", with3, game -> game.move(0));
            oneChange("skip", filled.andThen(game -> {
                Scenes.lay(game, 0, NONE, 1, NONE, 2, NONE);
                Check.castIs(game, 4);
            }), game -> game.skip());
            oneChange("play", filled, game -> game.play(100));
            oneChange("read", filled.andThen(game -> {
                game.wipe();
                Check.write(game, "5c5b");
            }), game -> game.read());
            oneChange("lay", filled, game -> game.lay(5, 35));
            oneChange("restore", filled.andThen(game -> {
                game.seed(8);
                game.save(1);
                game.play(20);
            }), game -> game.restore(1));
        }
    }

    /** Promise 21: "(also if nothing is different then)". */
    private static void promise21AlsoIfNothingIsDifferent() {
        BridgedPachisi game = new BridgedPachisi();
        due("set", game.set(0, 5), 5);
        due("changes", game.count(17), 1);
        due("seed", game.seed(1), 1);
        due("changes", game.count(17), 2);
        due("lay", game.lay(3, NONE), NONE);
        due("changes", game.count(17), 3);
        due("read", Check.readText(game, "4a"), 0);
        due("changes", game.count(17), 4);
        game.save(0);
        due("restore", game.restore(0), 1);
        due("changes", game.count(17), 5);
        due("undo()", game.undo(), 4);
        CHECK.holds("nothing is different", Whole.stateOf(game).equals(Whole.stateOf(new BridgedPachisi())));
    }

    /** Promise 21: what is no change records nothing: looks, what if, texts, save(), and any error. */
    private static void promise21NoChange() {
        for (int changes = 0; changes <= 6; changes += 3) {
            BridgedPachisi game = new BridgedPachisi();
            for (int number = 1; number <= changes; number++) {
                game.seed(number);
            }
            int sum = game.piece(0, 0) + game.field(0, 0) + game.why(0, 1) + game.count(0) + game.needs(0, 0)
                    + game.needs(0, 1) + game.nextCast(0) + game.untilOver() + game.best() + game.put('5')
                    + game.fault() + game.wipe() + game.save(0) + game.save(1);
            CHECK.holds("some answers", sum != 0);
            due("changes", game.count(17), changes);
            sum = game.set(3, 0) + game.seed(-1) + game.move(3) + game.move(0) + game.skip() + game.play(0)
                    + game.read() + game.lay(12, 0) + game.lay(0, 36) + game.restore(2);
            due("errors: five times BAD_VALUE, twice NO_SUCH and NOT_POSSIBLE, BAD_TEXT", sum, -10 - 2 - 10 - 3);
            due("changes", game.count(17), changes);
            due("undo()", game.undo(), changes == 0 ? NOT_POSSIBLE : changes - 1);
        }
    }

    /** Promise 21: "everything except the pad ... is as it was before it". */
    private static void promise21ExceptThePad() {
        BridgedPachisi game = new BridgedPachisi();
        Check.write(game, "5a");
        due("read()", game.read(), 1);
        Check.write(game, "5b5");
        due("undo()", game.undo(), 0);
        due("the piece is in the yard", game.piece(0, 0), NONE);
        due("the pad stays", game.count(16), 3);
        due("with what it holds", game.fault(), 3);
        game.put('a');
        due("read()", game.read(), 2);
        due("b", game.piece(1, 0), 0);
        due("undo()", game.undo(), 0);
        due("the pad does not come back", game.count(16), 0);
    }

    /** Promise 21: "except ... the slots": what is saved between stays saved, and is of its own time. */
    private static void promise21ExceptTheSlots() {
        BridgedPachisi game = new BridgedPachisi();
        game.seed(50);
        game.save(0);
        game.seed(60);
        game.save(1);
        due("undo()", game.undo(), 1);
        due("undo()", game.undo(), 0);
        due("restore(1)", game.restore(1), 1);
        due("x", game.count(3), 60);
        due("restore(0)", game.restore(0), 1);
        due("x", game.count(3), 50);
        due("undo()", game.undo(), 1);
        due("x", game.count(3), 60);
        due("undo()", game.undo(), 0);
        due("x", game.count(3), 1);
    }

    /** Promises 21 to 23: "everything": also when a bridge fell, which fell once more since. */
    private static void promise21WhenABridgeFell() {
        BridgedPachisi game = new BridgedPachisi();
        game.set(BridgedPachisi.MENDS, 7);
        Scenes.fell(game, 2, 1);
        Check.readText(game, "1-1-1-");
        game.save(0);
        due("4 turns more", game.field(20, 4), 4);
        due("until it is mended", Check.readText(game, "1-1-1-1-"), 4);
        Scenes.fell(game, 2, 1);
        due("7 turns more", game.field(20, 4), 7);
        game.save(1);
        for (int i = 0; i < 5; i++) {
            game.undo();
        }
        due("undo(): 4 turns more", game.field(20, 4), 4);
        due("restore(1)", game.restore(1), 8);
        due("7 turns more", game.field(20, 4), 7);
        due("restore(0)", game.restore(0), 4);
        due("4 turns more", game.field(20, 4), 4);
        due("passing", Check.readText(game, "1-1-1-"), 3);
        due("1 turn more", game.field(20, 4), 1);
        due("passing", Check.readText(game, "1-"), 1);
        due("mended", game.field(20, 3), 1);
    }

    /** Promise 22: "slot: 0 or 1"; "Returns the turns that have begun; BAD_VALUE if there is no such slot." */
    private static void promise22Slots() {
        for (int slot : new int[] {LEAST, -6, -1, 2, 3, MOST}) {
            CHECK.stays("save(" + slot + ")", Scenes::rich, game -> game.save(slot), BAD_VALUE);
        }
        BridgedPachisi game = new BridgedPachisi();
        for (int turn = 1; turn <= 6; turn++) {
            due("save(0)", game.save(0), turn);
            due("save(1)", game.save(1), turn);
            due("passing", Check.readText(game, "1-"), 1);
        }
    }

    /** Promise 22: "and overwrites what was saved there", and not what was saved in the other slot. */
    private static void promise22Overwrites() {
        BridgedPachisi game = new BridgedPachisi();
        game.seed(10);
        game.save(0);
        game.seed(11);
        game.save(1);
        game.seed(12);
        game.save(0);
        game.seed(13);
        game.restore(0);
        due("x of the slot 0", game.count(3), 12);
        game.restore(1);
        due("x of the slot 1", game.count(3), 11);
        game.restore(0);
        due("x of the slot 0", game.count(3), 12);
    }

    /** Promise 22: save() is no change of the game, with a throw or without, over or not. */
    private static void promise22IsNoChange() {
        for (Consumer<BridgedPachisi> scene : List.<Consumer<BridgedPachisi>>of(Scenes::rich, Scenes::richWithThrow,
                Scenes::richAndOver, Scenes::richAndOverWithThrow)) {
            BridgedPachisi game = new BridgedPachisi();
            scene.accept(game);
            List<Integer> before = Whole.stateOf(game);
            int changes = game.count(17);
            due("save(0)", game.save(0), 1);
            CHECK.holds("all is as before", Whole.stateOf(game).equals(before));
            due("changes", game.count(17), changes);
            due("the pad", game.count(16), 8);
            game.seed(1234);
            game.lay(11, 5);
            game.restore(0);
            CHECK.holds("all is as it was saved", Whole.stateOf(game).equals(before));
        }
    }

    /** Promise 23: "BAD_VALUE if there is no such slot; NOT_POSSIBLE if nothing was saved in it." */
    private static void promise23Errors() {
        for (int slot : new int[] {LEAST, -6, -1, 2, 3, MOST}) {
            CHECK.stays("restore(" + slot + ")", Scenes::rich, game -> game.restore(slot), BAD_VALUE);
        }
        for (int slot = 0; slot <= 1; slot++) {
            int empty = slot;
            CHECK.stays("nothing saved", game -> game.seed(7), game -> game.restore(empty), NOT_POSSIBLE);
            CHECK.stays("nothing saved in this one", game -> {
                game.seed(7);
                game.save(1 - empty);
            }, game -> game.restore(empty), NOT_POSSIBLE);
        }
    }

    /** Promise 23: "Restores what was saved last in a slot, which keeps it"; "Returns the turns ... then". */
    private static void promise23KeepsIt() {
        for (int slot = 0; slot <= 1; slot++) {
            BridgedPachisi game = new BridgedPachisi();
            Check.readText(game, "1-1-");
            game.save(slot);
            List<Integer> saved = Whole.stateOf(game);
            for (int often = 0; often < 3; often++) {
                game.play(7 + often);
                game.lay(4, 33);
                due("restore(" + slot + ")", game.restore(slot), 3);
                CHECK.holds("what was saved", Whole.stateOf(game).equals(saved));
            }
        }
    }

    /** Promise 23: "This is a change." */
    private static void promise23IsAChange() {
        BridgedPachisi game = new BridgedPachisi();
        game.save(0);
        due("changes", game.count(17), 0);
        for (int often = 1; often <= 8; often++) {
            due("restore(0)", game.restore(0), 1);
            due("changes", game.count(17), Math.min(often, 6));
        }
    }

    /** Promises 22 and 23: "everything except the pad, the history and the slots". */
    private static void promise23ExceptPadAndHistory() {
        BridgedPachisi game = new BridgedPachisi();
        Check.write(game, "5a");
        game.seed(10);
        game.save(0);
        game.seed(11);
        game.save(1);
        game.wipe();
        Check.write(game, "5b5");
        due("restore(0)", game.restore(0), 1);
        due("the pad stays", game.count(16), 3);
        due("and what it holds", game.fault(), 3);
        due("the history goes on", game.count(17), 3);
        due("the other slot stays", game.restore(1), 1);
        due("x", game.count(3), 11);
        due("undo()", game.undo(), 3);
        due("x", game.count(3), 10);
        due("undo()", game.undo(), 2);
        due("x", game.count(3), 11);
        due("undo()", game.undo(), 1);
        due("x", game.count(3), 10);
        due("undo()", game.undo(), 0);
        due("x", game.count(3), 1);
    }

    /** Promises 21 to 23: a game that is over goes on by undo(), and by restore() of a time when it was not. */
    private static void promise23EndOfAGame() {
        BridgedPachisi game = Scenes.laid(0, 35, 1, 35, 2, 34);
        game.save(0);
        due("the winning move", Check.readText(game, "1c"), 1);
        game.save(1);
        due("over", game.cast(), NOT_POSSIBLE);
        due("restore(0)", game.restore(0), 1);
        due("not over", game.count(8), NONE);
        due("cast()", game.cast() > 0 ? 1 : 0, 1);
        due("restore(1) with a throw", game.restore(1), 1);
        due("over", game.count(8), 0);
        due("no throw", game.count(5), NONE);
        due("undo() to the throw", game.undo(), 5);
        due("the throw", game.count(5), Check.castBehind(1));
        due("not over", game.count(8), NONE);
    }

    /** What it is: "An object is used for at most 512 calls": the last of them answers as the first. */
    private static void fiveHundredAndTwelveCalls() {
        BridgedPachisi game = new BridgedPachisi();
        for (int call = 1; call <= 512; call += 2) {
            due("seed, the call " + call, game.seed(call + 1), 1);
            due("undo, the call " + (call + 1), game.undo(), 0);
        }
        game = new BridgedPachisi();
        for (int call = 1; call <= 512; call++) {
            due("seed, the call " + call, game.seed(call + 1), call);
        }
        game = new BridgedPachisi();
        for (int call = 1; call <= 512; call += 2) {
            due("save, the call " + call, game.save(call / 2 % 2), 1);
            due("restore, the call " + (call + 1), game.restore(call / 2 % 2), 1);
        }
        game = new BridgedPachisi();
        for (int call = 1; call <= 511; call++) {
            due("put, the call " + call, game.put('5'), call <= 60 ? call : Check.TOO_MANY);
        }
        due("wipe, the last call", game.wipe(), 60);
        game = new BridgedPachisi();
        for (int call = 1; call <= 512; call++) {
            due("untilOver, the call " + call, game.untilOver(), new BridgedPachisi().untilOver());
        }
    }
}
