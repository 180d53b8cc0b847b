/** Promises 21 to 23: undo, save, restore. */
public final class SavingTest {
    private static final int BAD_VALUE = Check.BAD_VALUE, NOT_POSSIBLE = Check.NOT_POSSIBLE, NONE = Check.NONE;
    private static final Check CHECK = new Check("SavingTest");

    public static void main(String[] args) {
        promise21EachChange();
        promise21AtMostSix();
        promise21Everything();
        promise21WhatIsNoChange();
        promise22Save();
        promise23Restore();
        promise23KeepsTheSlot();
        CHECK.end();
    }

    private static void due(String call, long got, long want) {
        CHECK.due(call, got, want);
    }

    private static void promise21EachChange() {
        BridgedPachisi game = new BridgedPachisi();
        due("undo() of nothing", game.undo(), NOT_POSSIBLE);
        game.set(0, 5);
        due("set", game.count(17), 1);
        game.seed(1);
        due("seed", game.count(17), 2);
        game.lay(0, 0);
        due("lay", game.count(17), 3);
        game.cast();
        due("cast", game.count(17), 4);
        game.move(0);
        due("move", game.count(17), 5);
        game.undo();
        game.lay(0, NONE);
        game.skip();
        due("skip", game.count(17), 6);
        game = new BridgedPachisi();
        game.play(1);
        due("play", game.count(17), 1);
        Check.readText(game, "1-");
        due("read", game.count(17), 2);
        game.save(1);
        due("save", game.count(17), 2);
        game.restore(1);
        due("restore", game.count(17), 3);
        due("undo of restore", game.undo(), 2);
        due("undo of read", game.undo(), 1);
        due("turns", game.count(6), 2);
        due("undo of play", game.undo(), 0);
        due("turns", game.count(6), 1);
        due("undo of nothing", game.undo(), NOT_POSSIBLE);
    }

    private static void promise21AtMostSix() {
        BridgedPachisi game = new BridgedPachisi();
        for (int number = 10; number < 30; number++) {
            game.seed(number);
            due("at most six", game.count(17), Math.min(number - 9, 6));
        }
        for (int i = 0; i < 6; i++) {
            due("undo()", game.undo(), 5 - i);
            due("x", game.count(3), 28 - i);
        }
        due("the oldest are dropped", game.undo(), NOT_POSSIBLE);
        due("x", game.count(3), 23);
        game.seed(99);
        game.seed(98);
        due("undo()", game.undo(), 1);
        game.seed(97);
        due("undo()", game.undo(), 1);
        due("x", game.count(3), 99);
        due("undo()", game.undo(), 0);
        due("x", game.count(3), 23);
    }

    private static int[] all(BridgedPachisi game) {
        int[] seen = new int[16 + 12 * 2 + 4 * 2];
        int at = 0;
        for (int what = 0; what < 16; what++) {
            seen[at++] = game.count(what);
        }
        for (int piece = 0; piece < 12; piece++) {
            seen[at++] = game.piece(piece, 0);
            seen[at++] = game.piece(piece, 3);
        }
        for (int field = 4; field < 32; field += 8) {
            seen[at++] = game.field(field, 3);
            seen[at++] = game.field(field, 4);
        }
        return seen;
    }

    private static void same(String what, int[] got, int[] want) {
        CHECK.holds(what + " brings everything back", java.util.Arrays.equals(got, want));
    }

    /** A game with strained and fallen bridges, pieces sent back, and other settings. */
    private static BridgedPachisi lively(int number) {
        BridgedPachisi game = new BridgedPachisi();
        game.set(BridgedPachisi.MENDS, 6);
        game.set(BridgedPachisi.ENTERS, 2);
        game.set(BridgedPachisi.AGAINS, 2);
        game.seed(number);
        game.play(60);
        return game;
    }

    private static void promise21Everything() {
        for (int number = 1; number <= 40; number++) {
            BridgedPachisi game = lively(number);
            int[] before = all(game);
            game.play(30);
            game.set(BridgedPachisi.MENDS, 0);
            game.set(BridgedPachisi.ENTERS, 6);
            game.lay(number % 12, 35);
            game.undo();
            game.undo();
            game.undo();
            game.undo();
            same("undo()", all(game), before);
            due("nextCast() too", game.nextCast(0), Check.castBehind(game.count(3)));
            for (int bridge = 0; bridge < 4; bridge++) {
                game.lay(0, NONE);
                game.lay(1, NONE);
                game.lay(0, 8 * bridge + 4);
                game.lay(1, 8 * bridge + 4);
            }
            before = all(game);
            game.lay(0, 34);
            game.lay(1, 34);
            game.undo();
            game.undo();
            same("undo() of lay()", all(game), before);
        }
    }

    private static void promise21WhatIsNoChange() {
        BridgedPachisi game = new BridgedPachisi();
        game.put('5');
        game.wipe();
        game.fault();
        game.best();
        game.untilOver();
        game.nextCast(9);
        game.needs(0, 0);
        game.needs(0, 1);
        game.why(0, 6);
        game.save(0);
        due("none is recorded", game.count(17), 0);
        game.set(0, 9);
        game.seed(-1);
        game.move(0);
        game.skip();
        game.play(0);
        game.read();
        game.lay(0, 99);
        game.restore(1);
        due("errors are not recorded", game.count(17), 0);
        game.seed(7);
        game.save(0);
        game.put('5');
        due("undo()", game.undo(), 0);
        due("the pad stays", game.count(16), 1);
        game.restore(0);
        due("the slot stays", game.count(3), 7);
    }

    private static void promise22Save() {
        BridgedPachisi game = new BridgedPachisi();
        due("save(-1)", game.save(-1), BAD_VALUE);
        due("save(2)", game.save(2), BAD_VALUE);
        due("save of the most", game.save(Integer.MAX_VALUE), BAD_VALUE);
        due("save of the least", game.save(Integer.MIN_VALUE), BAD_VALUE);
        due("save(0)", game.save(0), 1);
        Check.readText(game, "1-1-");
        due("save(1)", game.save(1), 3);
        due("restore(0)", game.restore(0), 1);
        due("restore(1)", game.restore(1), 3);
        Check.readText(game, "1-");
        due("save(0) overwrites", game.save(0), 4);
        game.restore(1);
        due("restore(0)", game.restore(0), 4);
    }

    private static void promise23Restore() {
        BridgedPachisi game = new BridgedPachisi();
        due("restore(-1)", game.restore(-1), BAD_VALUE);
        due("restore(2)", game.restore(2), BAD_VALUE);
        due("restore of the most", game.restore(Integer.MAX_VALUE), BAD_VALUE);
        due("restore of the least", game.restore(Integer.MIN_VALUE), BAD_VALUE);
        due("restore(0) of nothing", game.restore(0), NOT_POSSIBLE);
        game.save(0);
        due("restore(1) of nothing", game.restore(1), NOT_POSSIBLE);
        due("no change", game.count(17), 0);
        for (int number = 1; number <= 40; number++) {
            BridgedPachisi saved = lively(number);
            int[] before = all(saved);
            saved.save(1);
            saved.play(50);
            saved.set(BridgedPachisi.AGAINS, 0);
            saved.put('1');
            int[] later = all(saved);
            due("restore(1)", saved.restore(1), before[6]);
            same("restore()", all(saved), before);
            due("the pad stays", saved.count(16), 1);
            saved.undo();
            same("undo() of restore()", all(saved), later);
        }
    }

    private static void promise23KeepsTheSlot() {
        BridgedPachisi game = new BridgedPachisi();
        game.seed(5);
        game.cast();
        game.save(0);
        for (int i = 0; i < 3; i++) {
            game.skip();
            game.lay(i, 30);
            due("restore(0)", game.restore(0), 1);
            due("the throw", game.count(5), Check.castBehind(5));
            due("throws", game.count(7), 1);
            due("pieces", game.piece(i, 0), NONE);
        }
        due("a change each", game.count(17), 6);
    }
}
