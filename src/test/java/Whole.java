import java.util.ArrayList;
import java.util.List;

/** All that can be told from a game, with its history, its slots and its pad; telling it uses the game up. */
final class Whole {
    private final BridgedPachisi game;
    private final List<Integer> told = new ArrayList<>();

    private Whole(BridgedPachisi game) {
        this.game = game;
    }

    /** Some 440 calls, so that a scene has 70 left. */
    static List<Integer> of(BridgedPachisi game) {
        Whole whole = new Whole(game);
        whole.told.add(game.count(16));
        whole.told.add(game.fault());
        whole.state();
        whole.history();
        whole.slots();
        whole.pad();
        return whole.told;
    }

    /** What undo() brings back and save() saves: all else that a game answers follows from it. */
    static List<Integer> stateOf(BridgedPachisi game) {
        Whole whole = new Whole(game);
        whole.state();
        return whole.told;
    }

    private void state() {
        for (int what = 0; what <= 7; what++) {
            told.add(game.count(what));
        }
        told.add(game.count(15));
        for (int piece = 0; piece < 12; piece++) {
            told.add(game.piece(piece, 0));
            told.add(game.piece(piece, 3));
        }
        for (int bridge = 4; bridge < 32; bridge += 8) {
            told.add(game.field(bridge, 3));
            told.add(game.field(bridge, 4));
        }
    }

    private void history() {
        told.add(game.count(17));
        for (int left = game.undo(); left >= 0; left = game.undo()) {
            told.add(left);
            state();
        }
    }

    private void slots() {
        for (int slot = 1; slot >= 0; slot--) {
            told.add(game.restore(slot));
            state();
        }
    }

    /** What the pad holds is told by its moves, of a game that was saved in the slot 0, or of the one that is left. */
    private void pad() {
        told.add(game.read());
        state();
    }
}
