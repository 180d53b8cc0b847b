import java.util.Random;

/** Runs of 512 calls with any arguments on the program and on Model, which have to answer the same. */
public final class ModelTest {
    private static final int RUNS = 1500;
    private static final int CALLS = 512;
    private static final int NONE = Check.NONE;
    private static final int[] WILD = {
        Integer.MIN_VALUE, Integer.MIN_VALUE + 1, -1000, -7, -6, -5, -2, -1, 0, 1, 2, 3, 4, 5, 6, 7,
        8, 11, 12, 13, 17, 18, 31, 32, 35, 36, 40, 41, 99, 100, 101, 65536, Integer.MAX_VALUE - 1, Integer.MAX_VALUE};
    private static final Check CHECK = new Check("ModelTest");
    private static final int[] ERRORS = new int[7];

    private final Random random;
    private final BridgedPachisi game = new BridgedPachisi();
    private final Model model = new Model();
    private final StringBuilder calls = new StringBuilder();
    private boolean same = true;
    private int made = 0;

    private ModelTest(long seed) {
        random = new Random(seed);
    }

    public static void main(String[] args) {
        for (int run = 0; run < RUNS; run++) {
            new ModelTest(run).run();
        }
        for (int code = 1; code <= 6; code++) {
            CHECK.holds("the code -" + code + " was answered often", ERRORS[code] > 1000);
        }
        CHECK.end();
    }

    private void run() {
        if (random.nextInt(3) > 0) {
            setAll();
        }
        int laying = random.nextInt(4);
        // Each round makes two calls at most.
        while (made < CALLS - 1 && same) {
            int kind = random.nextInt(100);
            if (kind < 6 + 5 * laying) {
                layOne();
            } else if (kind < 55) {
                change();
            } else {
                look();
            }
        }
        if (!same) {
            System.out.println(calls);
        }
    }

    private void setAll() {
        both(0, 0, 1 + random.nextInt(6));
        both(0, 1, random.nextInt(2) * random.nextInt(10));
        both(0, 2, random.nextInt(4));
    }

    private int wild(int most) {
        return random.nextInt(12) == 0 ? WILD[random.nextInt(WILD.length)] : random.nextInt(most + 1);
    }

    /** Often near where another piece stands, so that pairs come about, and bridges fall. */
    private void layOne() {
        int piece = wild(11);
        int progress = wild(35);
        int near = random.nextInt(6);
        if (near == 0) {
            progress = 4 + 8 * random.nextInt(4);
        } else if (near == 1) {
            progress = model.piece(random.nextInt(12), 0) + random.nextInt(3) - 1;
        } else if (near == 2 && random.nextInt(4) == 0) {
            progress = NONE;
        } else if (near == 3) {
            progress = 32 + random.nextInt(4);
        }
        both(6, piece, progress);
    }

    private void change() {
        switch (random.nextInt(14)) {
            case 0:
                both(0, wild(2), wild(random.nextBoolean() ? 6 : 40));
                break;
            case 1:
                both(1, random.nextInt(8) == 0 ? wild(9) : random.nextInt(), 0);
                break;
            case 2:
            case 3:
                both(2, 0, 0);
                break;
            case 4:
                both(3, wild(2), 0);
                both(4, 0, 0);
                break;
            case 5:
                playBest();
                break;
            case 6:
                both(5, random.nextInt(3) == 0 ? wild(100) : 1 + random.nextInt(5), 0);
                break;
            case 7:
            case 8:
                putText();
                break;
            case 9:
                both(7, 0, 0);
                break;
            case 10:
                both(18, 0, 0);
                break;
            case 11:
                both(19, wild(1), 0);
                break;
            case 12:
                both(20, wild(1), 0);
                break;
            default:
                both(random.nextInt(3) == 0 ? 16 : 2, 0, 0);
                break;
        }
    }

    private void playBest() {
        int best = model.best();
        both(14, 0, 0);
        both(best == NONE ? 4 : 3, best, 0);
    }

    private void putText() {
        StringBuilder text = new StringBuilder();
        int moves = 1 + random.nextInt(4);
        for (int i = 0; i < moves; i++) {
            text.append((char) ('1' + random.nextInt(6))).append("abc-".charAt(random.nextInt(4)));
        }
        if (random.nextInt(12) == 0) {
            text.setCharAt(random.nextInt(text.length()), (char) (32 + random.nextInt(97)));
        }
        if (random.nextInt(12) == 0) {
            text.setLength(text.length() - 1);
        }
        long characters = Check.packed(text.toString());
        if (random.nextInt(20) == 0) {
            characters ^= 1L << random.nextInt(64);
        } else if (random.nextInt(40) == 0) {
            characters = random.nextLong();
        }
        same("put(" + characters + "L)", game.put(characters), model.put(characters));
        if (random.nextBoolean()) {
            both(7, 0, 0);
        }
    }

    private void look() {
        switch (random.nextInt(14)) {
            case 0:
            case 1:
                both(10, wild(11), wild(3));
                break;
            case 2:
            case 3:
                both(11, random.nextBoolean() ? 4 + 8 * random.nextInt(4) : wild(31), wild(4));
                break;
            case 4:
            case 5:
            case 6:
                both(12, wild(11), 1 + wild(5));
                break;
            case 7:
            case 8:
                both(13, wild(17), 0);
                break;
            case 9:
                both(14, 0, 0);
                break;
            case 10:
            case 11:
                both(15, wild(11), wild(1));
                break;
            case 12:
                both(9, wild(99), 0);
                break;
            default:
                both(random.nextInt(20) == 0 ? 8 : 17, 0, 0);
                break;
        }
    }

    private void both(int method, int first, int second) {
        switch (method) {
            case 0:
                same("set(" + first + ", " + second + ")", game.set(first, second), model.set(first, second));
                break;
            case 1:
                same("seed(" + first + ")", game.seed(first), model.seed(first));
                break;
            case 2:
                same("cast()", game.cast(), model.cast());
                break;
            case 3:
                same("move(" + first + ")", game.move(first), model.move(first));
                break;
            case 4:
                same("skip()", game.skip(), model.skip());
                break;
            case 5:
                same("play(" + first + ")", game.play(first), model.play(first));
                break;
            case 6:
                same("lay(" + first + ", " + second + ")", game.lay(first, second), model.lay(first, second));
                break;
            case 7:
                same("read()", game.read(), model.read());
                break;
            default:
                bothLook(method, first, second);
                break;
        }
    }

    private void bothLook(int method, int first, int second) {
        switch (method) {
            case 8:
                same("untilOver()", game.untilOver(), model.untilOver());
                break;
            case 9:
                same("nextCast(" + first + ")", game.nextCast(first), model.nextCast(first));
                break;
            case 10:
                same("piece(" + first + ", " + second + ")", game.piece(first, second), model.piece(first, second));
                break;
            case 11:
                same("field(" + first + ", " + second + ")", game.field(first, second), model.field(first, second));
                break;
            case 12:
                same("why(" + first + ", " + second + ")", game.why(first, second), model.why(first, second));
                break;
            case 13:
                same("count(" + first + ")", game.count(first), model.count(first));
                break;
            case 14:
                same("best()", game.best(), model.best());
                break;
            case 15:
                same("needs(" + first + ", " + second + ")", game.needs(first, second), model.needs(first, second));
                break;
            case 16:
                same("wipe()", game.wipe(), model.wipe());
                break;
            case 17:
                same("fault()", game.fault(), model.fault());
                break;
            case 18:
                same("undo()", game.undo(), model.undo());
                break;
            case 19:
                same("save(" + first + ")", game.save(first), model.save(first));
                break;
            default:
                same("restore(" + first + ")", game.restore(first), model.restore(first));
                break;
        }
    }

    private void same(String call, int got, int want) {
        calls.append(call).append(" -> ").append(got).append('\n');
        made++;
        if (want < 0) {
            ERRORS[-want]++;
        }
        if (same) {
            CHECK.due(call, got, want);
        }
        same &= got == want;
    }
}
