import java.util.function.Consumer;

/** Games that go on for long, sought by play() alone. */
final class LongGames {
    private static final int NONE = Check.NONE;

    private static int number = 0;
    private static int length = 0;

    private LongGames() {
    }

    /** A game without a throw that is over, as play() goes, with just so many throws, 401 at most. */
    static BridgedPachisi endsWith(int left) {
        BridgedPachisi game = new BridgedPachisi();
        scene(left).accept(game);
        return game;
    }

    /** What makes a new game such a one; some calls, no more than 40. */
    static Consumer<BridgedPachisi> scene(int left) {
        seek();
        return game -> {
            begin(game, number);
            for (int ahead = length - left; ahead > 0; ahead -= 100) {
                game.play(Math.min(ahead, 100));
            }
        };
    }

    private static void seek() {
        while (length < 401 && number < 100000) {
            number++;
            length = lengthOf(number);
        }
        if (length < 401) {
            throw new IllegalStateException("no game is so long");
        }
    }

    private static void begin(BridgedPachisi game, int seed) {
        game.set(BridgedPachisi.AGAINS, 0);
        game.set(BridgedPachisi.ENTERS, 6);
        game.seed(seed);
    }

    /** How many throws a game takes, 0 if it is not over within a thousand. */
    private static int lengthOf(int seed) {
        BridgedPachisi game = new BridgedPachisi();
        begin(game, seed);
        int made = 0;
        for (int round = 0; round < 10 && game.count(8) == NONE; round++) {
            made += game.play(100);
        }
        return game.count(8) == NONE ? 0 : made;
    }
}
