/** Promises 18 to 20: put, wipe, fault. */
public final class TextsTest {
    private static final int BAD_VALUE = Check.BAD_VALUE, TOO_MANY = Check.TOO_MANY, NONE = Check.NONE;
    private static final Check CHECK = new Check("TextsTest");

    public static void main(String[] args) {
        promise18Put();
        promise18Codes();
        promise18Order();
        promise18TooMany();
        promise19Wipe();
        promise20Fault();
        promise20EveryCode();
        CHECK.end();
    }

    private static void due(String call, long got, long want) {
        CHECK.due(call, got, want);
    }

    private static void promise18Put() {
        BridgedPachisi game = new BridgedPachisi();
        due("put(0)", game.put(0), BAD_VALUE);
        String text = "12345678";
        int length = 0;
        for (int more = 1; more <= 8; more++) {
            length += more;
            due("put of " + more, game.put(Check.packed(text.substring(0, more))), length);
        }
        due("length", game.count(16), 36);
        due("it is no change", game.count(17), 0);
    }

    private static void promise18Codes() {
        for (int code = 0; code < 256; code++) {
            BridgedPachisi game = new BridgedPachisi();
            boolean good = code >= 33 && code <= 126;
            due("put of the code " + code, game.put(code), good ? 1 : BAD_VALUE);
            game.wipe();
            due("the first of two", game.put((long) code << 8 | 'a'), good ? 2 : code == 0 ? 1 : BAD_VALUE);
            game.wipe();
            due("the last of two", game.put('a' << 8 | code), good ? 2 : BAD_VALUE);
            game.wipe();
            long eight = Check.packed("aaaaaaa") | (long) code << 56;
            due("the first of eight", game.put(eight), good ? 8 : code == 0 ? 7 : BAD_VALUE);
        }
        BridgedPachisi game = new BridgedPachisi();
        due("a gap", game.put('a' << 16 | 'a'), BAD_VALUE);
        due("a gap of one bit far above", game.put(1L << 62 | 'a'), BAD_VALUE);
        due("a gap of the highest bit", game.put(Long.MIN_VALUE | 'a'), BAD_VALUE);
        due("no character at the end", game.put((long) 'a' << 8), BAD_VALUE);
        due("-1", game.put(-1), BAD_VALUE);
        due("the most", game.put(Long.MAX_VALUE), BAD_VALUE);
        due("the least", game.put(Long.MIN_VALUE), BAD_VALUE);
        due("nothing was put", game.count(16), 0);
    }

    private static void promise18Order() {
        BridgedPachisi game = new BridgedPachisi();
        game.put(Check.packed("5a5b"));
        due("the lowest 8 bits are the last character", game.fault(), NONE);
        due("read()", game.read(), 2);
        due("first a", game.piece(0, 0), 0);
        due("then b", game.piece(4, 0), 0);
    }

    private static void promise18TooMany() {
        BridgedPachisi game = new BridgedPachisi();
        for (int i = 0; i < 7; i++) {
            game.put(Check.packed("5a5a5a5a"));
        }
        due("5 more than 56", game.put(Check.packed("5a5a5")), TOO_MANY);
        due("8 more than 56", game.put(Check.packed("5a5a5a5a")), TOO_MANY);
        due("a wrong one first", game.put(' '), BAD_VALUE);
        due("length", game.count(16), 56);
        due("4 more than 56", game.put(Check.packed("5a5a")), 60);
        due("1 more than 60", game.put('5'), TOO_MANY);
        due("a wrong one first", game.put(127), BAD_VALUE);
        due("no fault", game.fault(), NONE);
        due("read() of 30 moves, 5a of each player again and again", game.read(), 30);
        due("eight times of player 0", game.piece(0, 0), 35);
        due("seven times of player 2", game.piece(6, 0), 30);
        due("the pad is empty", game.count(16), 0);
    }

    private static void promise19Wipe() {
        BridgedPachisi game = new BridgedPachisi();
        due("wipe()", game.wipe(), 0);
        game.put(Check.packed("abc"));
        due("wipe()", game.wipe(), 3);
        due("wipe() again", game.wipe(), 0);
        due("length", game.count(16), 0);
        due("fault()", game.fault(), 0);
        due("it is no change", game.count(17), 0);
        game.seed(3);
        game.put('a');
        due("undo() leaves the pad", game.undo(), 0);
        due("wipe()", game.wipe(), 1);
    }

    private static void promise20Fault() {
        String[] texts = {
            "1a", "6-", "3b4c", "1", "1a2", "a", "1a2d", "0a", "7a", "1A", "aa", "11", "-1", "1a-a", "1aa",
            "1a2b3c4-5",
            "1a2b3c4-5a6b1c2-3a4b5c6-1a2b3c4-5a6b1c2-3a4b5c6-1a2b3c4-5a6!"};
        int[] faults = {NONE, NONE, NONE, 1, 3, 0, 3, 0, 0, 1, 0, 1, 0, 2, 2, 9, 59};
        for (int i = 0; i < texts.length; i++) {
            BridgedPachisi game = new BridgedPachisi();
            due("length", Check.write(game, texts[i]), texts[i].length());
            due("fault() of " + texts[i], game.fault(), faults[i]);
            due("the pad stays", game.count(16), texts[i].length());
        }
        due("fault() of an empty pad", new BridgedPachisi().fault(), 0);
    }

    private static void promise20EveryCode() {
        for (char code = 33; code <= 126; code++) {
            BridgedPachisi game = new BridgedPachisi();
            game.put(code);
            due("fault() of " + code, game.fault(), code >= '1' && code <= '6' ? 1 : 0);
            game.wipe();
            game.put('1' << 8 | code);
            due("fault() of 1" + code, game.fault(), "abc-".indexOf(code) >= 0 ? NONE : 1);
        }
    }
}
