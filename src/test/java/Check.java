import java.util.function.Consumer;
import java.util.function.ToLongFunction;

/** What the tests share: counting wrong answers, and bringing games to where a test wants them. */
final class Check {
    static final int NO_SUCH = -1, BAD_VALUE = -2, BAD_TEXT = -3, TOO_MANY = -4, NOT_POSSIBLE = -5, NONE = -6;

    private final String name;
    private int asked = 0;
    private int wrong = 0;

    Check(String name) {
        this.name = name;
    }

    void due(String call, long got, long want) {
        asked++;
        if (got != want) {
            wrong++;
            System.out.println(name + ": " + call + " answered " + got + ", due is " + want);
        }
    }

    void due(String what, String got, String want) {
        asked++;
        if (!got.equals(want)) {
            wrong++;
            System.out.println(name + ": " + what + " is\n" + got + "\ndue is\n" + want);
        }
    }

    void holds(String what, boolean so) {
        due(what, so ? 1 : 0, 1);
    }

    /** On a game of this scene the call answers so, and changes nothing: pad, history and slots stay, too. */
    void stays(String call, Consumer<BridgedPachisi> scene, ToLongFunction<BridgedPachisi> asked, long want) {
        BridgedPachisi game = new BridgedPachisi();
        BridgedPachisi unasked = new BridgedPachisi();
        scene.accept(game);
        scene.accept(unasked);
        due(call, asked.applyAsLong(game), want);
        holds(call + " changes nothing", Whole.of(game).equals(Whole.of(unasked)));
    }

    void end() {
        System.out.println(name + ": " + asked + " answers, " + wrong + " wrong");
        if (wrong != 0) {
            System.exit(1);
        }
    }

    /** The throw that the document's formula tells behind x. */
    static int castBehind(long x) {
        return (int) (1 + nextX(x) / 65536 % 6);
    }

    static long nextX(long x) {
        return (x * 1103515245L + 12345L) % 2147483648L;
    }

    /** A number for seed() behind which these throws come, one after the other. */
    static int seedFor(int... casts) {
        for (int number = 0; number < Integer.MAX_VALUE; number++) {
            long x = number;
            int right = 0;
            while (right < casts.length && castBehind(x) == casts[right]) {
                x = nextX(x);
                right++;
            }
            if (right == casts.length) {
                return number;
            }
        }
        throw new IllegalStateException("no such number");
    }

    /** The player whose turn it is throws this. */
    static void castIs(BridgedPachisi game, int cast) {
        game.seed(seedFor(cast));
        if (game.cast() != cast) {
            throw new IllegalStateException("the throw is not " + cast);
        }
    }

    static int write(BridgedPachisi game, String text) {
        int length = 0;
        for (int from = 0; from < text.length(); from += 8) {
            length = game.put(packed(text.substring(from, Math.min(from + 8, text.length()))));
        }
        return length;
    }

    static long packed(String characters) {
        long number = 0;
        for (int i = 0; i < characters.length(); i++) {
            number = number << 8 | characters.charAt(i);
        }
        return number;
    }

    static int readText(BridgedPachisi game, String text) {
        write(game, text);
        return game.read();
    }

    /** A new game in which it is this player's turn, by passing: turns that have begun are player + 1. */
    static BridgedPachisi turnOf(int player) {
        BridgedPachisi game = new BridgedPachisi();
        for (int i = 0; i < player; i++) {
            readText(game, "1-");
        }
        return game;
    }
}
