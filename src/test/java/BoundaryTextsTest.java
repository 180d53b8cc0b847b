/** Boundaries of the term "Texts" and of the promises 18 to 20, a method for each sentence that names one. */
public final class BoundaryTextsTest {
    private static final int BAD_VALUE = Check.BAD_VALUE, BAD_TEXT = Check.BAD_TEXT, TOO_MANY = Check.TOO_MANY;
    private static final int NONE = Check.NONE;
    private static final Check CHECK = new Check("BoundaryTextsTest");

    public static void main(String[] args) {
        padHoldsSixty();
        oneMoveAtLeast();
        digitsOneToSix();
        lettersAndDash();
        pieceOfWhoseTurnItIs();
        xDoesNotChange();
        faultIsTheFirst();
        faultAtTheEnd();
        faultAtTheLastCharacter();
        promise18OneToEight();
        promise18Codes();
        promise18BitsAbove();
        promise18LastIsLowest();
        promise18TooMany();
        promise18IsNoChange();
        promise19Wipe();
        promise20None();
        CHECK.end();
    }

    private static void due(String call, long got, long want) {
        CHECK.due(call, got, want);
    }

    private static BridgedPachisi holding(String text) {
        BridgedPachisi game = new BridgedPachisi();
        if (!text.isEmpty()) {
            due("length", Check.write(game, text), text.length());
        }
        return game;
    }

    /** Texts: "The pad is a text of at most 60 characters": 59, 60, and no 61. */
    private static void padHoldsSixty() {
        BridgedPachisi game = holding("1-".repeat(29) + "1");
        due("59", game.count(16), 59);
        due("60", game.put('-'), 60);
        due("60", game.count(16), 60);
        due("no fault", game.fault(), NONE);
        CHECK.stays("61", full -> Check.write(full, "1-".repeat(30)), full -> full.put('1'), TOO_MANY);
        due("30 moves", game.read(), 30);
        due("turns", game.count(6), 31);
        due("empty then", game.count(16), 0);
    }

    /** Texts: "text = move { move }": one at least. */
    private static void oneMoveAtLeast() {
        due("no move", holding("").fault(), 0);
        due("one move", holding("5a").fault(), NONE);
        due("two moves", holding("5a5b").fault(), NONE);
        due("one and a half", holding("5a5").fault(), 3);
    }

    /** Texts: "a throw, a digit 1 to 6". */
    private static void digitsOneToSix() {
        for (int code = 33; code <= 126; code++) {
            BridgedPachisi game = holding((char) code + "-");
            boolean digit = code >= '1' && code <= '6';
            due("fault with the throw " + (char) code, game.fault(), digit ? NONE : 0);
        }
        BridgedPachisi game = Scenes.laid(0, 0);
        game.set(BridgedPachisi.AGAINS, 0);
        due("by 1", Check.readText(game, "1a"), 1);
        due("progress", game.piece(0, 0), 1);
        due("by 6", Check.readText(game, "1-1-1-6a"), 4);
        due("progress", game.piece(0, 0), 7);
    }

    /** Texts: "and "a", "b", "c" (the piece 0, 1, 2 ...) or "-" (passing)". */
    private static void lettersAndDash() {
        for (int code = 33; code <= 126; code++) {
            BridgedPachisi game = holding("1" + (char) code);
            boolean sign = code >= 'a' && code <= 'c' || code == '-';
            due("fault with the piece " + (char) code, game.fault(), sign ? NONE : 1);
        }
        for (int own = 0; own < 3; own++) {
            BridgedPachisi game = new BridgedPachisi();
            due("by its letter", Check.readText(game, "5" + (char) ('a' + own)), 1);
            for (int piece = 0; piece < 3; piece++) {
                due("that one", game.piece(piece, 0), piece == own ? 0 : NONE);
            }
        }
        BridgedPachisi game = new BridgedPachisi();
        due("passing", Check.readText(game, "4-"), 1);
        due("whose turn", game.count(4), 1);
    }

    /** Texts: "the piece 0, 1, 2 of the player whose turn it is", 0 to 3. */
    private static void pieceOfWhoseTurnItIs() {
        BridgedPachisi game = new BridgedPachisi();
        due("each player", Check.readText(game, "5a5b5c5a"), 4);
        int[] in = {0, 4, 8, 9};
        for (int piece : in) {
            due("came in", game.piece(piece, 0), 0);
        }
        due("and no others", game.field(0, 0) + game.field(8, 0) + game.field(16, 0) + game.field(24, 0), 4);
        due("player 0 again", Check.readText(game, "1a"), 1);
        due("its piece", game.piece(0, 0), 1);
    }

    /** Texts: "in place of one that x would tell; x does not change by it." */
    private static void xDoesNotChange() {
        BridgedPachisi game = new BridgedPachisi();
        game.seed(4711);
        int next = game.nextCast(0);
        due("read()", Check.readText(game, "6a1a5b4-3-"), 5);
        due("x", game.count(3), 4711);
        due("the throw that x tells", game.cast(), next);
    }

    /** Texts: "the index of the first character that cannot stand at its place ... from left to right". */
    private static void faultIsTheFirst() {
        due("the first", holding("a1").fault(), 0);
        due("the second", holding("11").fault(), 1);
        due("the third", holding("1aa").fault(), 2);
        due("the fourth", holding("1a11").fault(), 3);
        due("the first of two", holding("1a77").fault(), 2);
        due("ahead of the end that is too early", holding("1a7").fault(), 2);
        for (int at = 0; at < 60; at++) {
            StringBuilder text = new StringBuilder("6c".repeat(30));
            text.setCharAt(at, '!');
            due("at " + at, holding(text.toString()).fault(), at);
        }
    }

    /** Texts: "if there is none and the text ends too early (also if it is empty), it is the length of the text". */
    private static void faultAtTheEnd() {
        due("empty", new BridgedPachisi().fault(), 0);
        for (int length = 1; length <= 60; length++) {
            String text = "3b".repeat(30).substring(0, length);
            due("length " + length, holding(text).fault(), length % 2 == 1 ? length : NONE);
        }
    }

    /** Texts: a fault at the last character that the pad can hold, and read() of it. */
    private static void faultAtTheLastCharacter() {
        String text = "1-".repeat(29) + "1d";
        due("the last one", holding(text).fault(), 59);
        CHECK.stays("read()", game -> Check.write(game, text), game -> game.read(), BAD_TEXT);
        CHECK.stays("read() of 59", game -> Check.write(game, text.substring(0, 59)), game -> game.read(), BAD_TEXT);
    }

    /** Promise 18: "characters: 1 to 8 characters". */
    private static void promise18OneToEight() {
        CHECK.stays("no character", Scenes::rich, game -> game.put(0), BAD_VALUE);
        for (int more = 1; more <= 8; more++) {
            BridgedPachisi game = new BridgedPachisi();
            due("put of " + more, game.put(Check.packed("12345678".substring(0, more))), more);
            due("length", game.count(16), more);
        }
    }

    /** Promise 18: "a code is not 33 to 126", at each of the eight places. */
    private static void promise18Codes() {
        for (int place = 0; place < 8; place++) {
            for (int code : new int[] {1, 32, 33, 34, 125, 126, 127, 128, 161, 254, 255}) {
                long characters = Check.packed("aaaaaaaa") & ~(255L << 8 * place) | (long) code << 8 * place;
                boolean good = code >= 33 && code <= 126;
                BridgedPachisi game = new BridgedPachisi();
                due("the code " + code + " at " + place, game.put(characters), good ? 8 : BAD_VALUE);
                due("length", game.count(16), good ? 8 : 0);
            }
        }
        for (int code : new int[] {1, 32, 127, 128, 255}) {
            CHECK.stays("the code " + code, Scenes::rich, game -> game.put(code), BAD_VALUE);
            CHECK.stays("the code " + code + " behind a good one", Scenes::rich,
                    game -> game.put('5' << 8 | code), BAD_VALUE);
            CHECK.stays("the code " + code + " ahead of a good one", Scenes::rich,
                    game -> game.put((long) code << 8 | '5'), BAD_VALUE);
        }
    }

    /** Promise 18: "no more characters, and everything above them has to be 0, too". */
    private static void promise18BitsAbove() {
        for (int characters = 0; characters <= 6; characters++) {
            String text = "555555".substring(0, characters);
            for (int bit = 8 * characters + 8; bit < 64; bit++) {
                long number = Check.packed(text) | 1L << bit;
                due(characters + " characters, and the bit " + bit, new BridgedPachisi().put(number), BAD_VALUE);
            }
        }
        CHECK.stays("a gap", Scenes::rich, game -> game.put('5' << 16 | 'a'), BAD_VALUE);
        CHECK.stays("the highest bit alone", Scenes::rich, game -> game.put(Long.MIN_VALUE), BAD_VALUE);
        CHECK.stays("all bits", Scenes::rich, game -> game.put(-1), BAD_VALUE);
        due("nothing above", new BridgedPachisi().put('5'), 1);
        due("nothing above seven", new BridgedPachisi().put(Check.packed("5555555")), 7);
    }

    /** Promise 18: "its lowest 8 bits are the last character, the next 8 bits the one before". */
    private static void promise18LastIsLowest() {
        BridgedPachisi game = new BridgedPachisi();
        game.put('b' << 8 | '5');
        due("first b, then 5", game.fault(), 0);
        game.wipe();
        game.put('5' << 8 | 'b');
        due("first 5, then b", game.fault(), NONE);
        game.wipe();
        game.put(Check.packed("5a5b5c5!"));
        due("the last of eight", game.fault(), 7);
        game.wipe();
        game.put(Check.packed("!a5b5c5a"));
        due("the first of eight", game.fault(), 0);
        game.wipe();
        game.put('5');
        game.put('c');
        due("it appends", game.fault(), NONE);
        due("read()", game.read(), 1);
        due("5c", game.piece(2, 0), 0);
    }

    /** Promise 18: "TOO_MANY if the pad would be longer than 60": 60 is not too many. */
    private static void promise18TooMany() {
        for (int before = 52; before <= 60; before++) {
            for (int more = 1; more <= 8; more++) {
                String text = "5a".repeat(30).substring(0, before);
                long characters = Check.packed("5a5a5a5a".substring(0, more));
                int want = before + more <= 60 ? before + more : TOO_MANY;
                BridgedPachisi game = holding(text);
                due(more + " more than " + before, game.put(characters), want);
                due("length", game.count(16), Math.max(want, before));
            }
        }
        CHECK.stays("5 more than 56", game -> Check.write(game, "5a".repeat(28)),
                game -> game.put(Check.packed("5a5a5")), TOO_MANY);
        BridgedPachisi game = holding("5a".repeat(30));
        due("too many", game.put('5'), TOO_MANY);
        due("wipe()", game.wipe(), 60);
        due("room again", game.put('5'), 1);
    }

    /** Promises 18 to 20 are no changes: nothing is recorded by them, and undo() leaves the pad. */
    private static void promise18IsNoChange() {
        BridgedPachisi game = new BridgedPachisi();
        game.put('5');
        game.fault();
        game.wipe();
        due("history", game.count(17), 0);
        game.seed(2);
        game.put('5');
        due("undo()", game.undo(), 0);
        due("the pad", game.count(16), 1);
    }

    /** Promise 19: "returns the length that it had": 0, 1 and 60. */
    private static void promise19Wipe() {
        due("of an empty pad", new BridgedPachisi().wipe(), 0);
        for (int length : new int[] {1, 2, 59, 60}) {
            BridgedPachisi game = holding("5a".repeat(30).substring(0, length));
            due("length", game.wipe(), length);
            due("then", game.wipe(), 0);
            due("length then", game.count(16), 0);
            due("fault then", game.fault(), 0);
        }
    }

    /** Promise 20: "NONE if there is none"; nothing changes by asking. */
    private static void promise20None() {
        CHECK.stays("no fault", Scenes::rich, game -> game.fault(), NONE);
        CHECK.stays("a fault", game -> {
            Scenes.rich(game);
            game.put('a');
        }, game -> game.fault(), 8);
        CHECK.stays("an empty pad", game -> game.seed(3), game -> game.fault(), 0);
    }
}
