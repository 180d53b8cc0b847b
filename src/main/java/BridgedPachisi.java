/** Pachisi with bridges that fall behind a pair; ../shared/DOC.md says what each method answers. */
public final class BridgedPachisi {
    public static final int NO_SUCH = -1, BAD_VALUE = -2, BAD_TEXT = -3, TOO_MANY = -4, NOT_POSSIBLE = -5, NONE = -6;
    public static final int ENTERS = 0, MENDS = 1, AGAINS = 2;

    private static final int PLAYERS = 4;
    private static final int TEAM = 3;
    private static final int PIECES = PLAYERS * TEAM;
    private static final int FIELDS = 32;
    private static final int QUARTER = FIELDS / PLAYERS;
    private static final int BRIDGES = 4;
    private static final int BRIDGE_IN_QUARTER = 4;
    private static final int HOME = 35;
    private static final int HIGHEST_CAST = 6;
    private static final int PAIR = 2;

    // NONE stands below every progress, so the yard counts as the least of them.
    private static final int YARD = NONE;
    private static final int NOWHERE = NONE;

    private static final int NO_BRIDGE = 0, STANDING = 1, STRAINED = 2, FALLEN = 3;

    private static final int FREE = 0, IS_HOME = 1, NEEDS_HIGHER = 2, NOT_JUST_SO = 3;
    private static final int IS_BLOCKED = 4, IS_FULL = 5, IS_SAFE = 6;

    private static final int SETTINGS = 3;
    private static final int[] LEAST_VALUE = {1, 0, 0};
    private static final int[] GREATEST_VALUE = {6, 40, 3};
    private static final int[] FIRST_VALUE = {5, 0, 1};

    private static final int MOST_CASTS = 100;
    private static final int MOST_AHEAD = 99;
    private static final int OVER_WITHIN = 400;
    private static final int PAD_ROOM = 60;
    private static final int CHARACTERS_A_PUT = 8;
    private static final int HISTORY_ROOM = 6;
    private static final int SLOTS = 2;

    private final Game game = new Game();
    private final Game trial = new Game();
    private final Route route = new Route();
    private final Pad pad = new Pad();
    private final History history = new History();
    private final Game[] slots = new Game[SLOTS];

    public BridgedPachisi() {
    }

    // ---- changes

    public int set(int setting, int value) {
        if (setting < 0 || setting >= SETTINGS) {
            return BAD_VALUE;
        }
        if (value < LEAST_VALUE[setting] || value > GREATEST_VALUE[setting]) {
            return BAD_VALUE;
        }
        history.remember(game);
        int before = game.settings[setting];
        game.settings[setting] = value;
        return before;
    }

    public int seed(int number) {
        if (number < 0) {
            return BAD_VALUE;
        }
        history.remember(game);
        int before = game.x;
        game.x = number;
        return before;
    }

    public int cast() {
        if (game.isOver() || game.hasThrow()) {
            return NOT_POSSIBLE;
        }
        history.remember(game);
        game.throwByX();
        return game.thrown;
    }

    public int move(int piece) {
        if (piece < 0 || piece >= TEAM) {
            return NO_SUCH;
        }
        int moved = game.player * TEAM + piece;
        if (!game.hasThrow() || game.reason(moved, game.thrown) != FREE) {
            return NOT_POSSIBLE;
        }
        history.remember(game);
        return game.moveByThrow(moved);
    }

    public int skip() {
        if (!game.hasThrow() || game.canMoveBy(game.thrown)) {
            return NOT_POSSIBLE;
        }
        history.remember(game);
        game.endThrow();
        return game.player;
    }

    public int play(int casts) {
        if (casts < 1 || casts > MOST_CASTS) {
            return BAD_VALUE;
        }
        if (game.isOver() || game.hasThrow()) {
            return NOT_POSSIBLE;
        }
        history.remember(game);
        return game.playOn(casts);
    }

    public int read() {
        if (pad.faultIndex() != NONE) {
            return BAD_TEXT;
        }
        if (game.hasThrow()) {
            return NOT_POSSIBLE;
        }
        history.remember(game);
        int made = 0;
        while (made < pad.moves() && !game.isOver()
                && game.makeMove(pad.castOfMove(made), pad.pieceOfMove(made))) {
            made++;
        }
        pad.length = 0;
        return made;
    }

    public int lay(int piece, int progress) {
        if (isNoPiece(piece)) {
            return NO_SUCH;
        }
        if (progress != YARD && (progress < 0 || progress > HOME)) {
            return BAD_VALUE;
        }
        if (!game.board.hasRoomFor(piece, progress)) {
            return NOT_POSSIBLE;
        }
        history.remember(game);
        int before = game.board.progress[piece];
        game.board.place(piece, progress, game.turns);
        return before;
    }

    // ---- what there is; nothing changes

    public int piece(int piece, int what) {
        if (isNoPiece(piece)) {
            return NO_SUCH;
        }
        switch (what) {
            case 0:
                return game.board.progress[piece];
            case 1:
                return game.board.fieldOf(piece);
            case 2:
                return game.board.isInPair(piece) ? 1 : 0;
            case 3:
                return game.board.sentBack[piece];
            default:
                return BAD_VALUE;
        }
    }

    public int field(int field, int what) {
        if (field < 0 || field >= FIELDS) {
            return NO_SUCH;
        }
        switch (what) {
            case 0:
                return game.board.piecesOn(field);
            case 1:
                return game.board.lowestOn(field);
            case 2:
                return isSafe(field) ? 1 : 0;
            case 3:
                return game.board.bridgeState(field);
            case 4:
                return game.turnsUntilMended(field);
            default:
                return BAD_VALUE;
        }
    }

    public int why(int piece, int cast) {
        if (isNoPiece(piece)) {
            return NO_SUCH;
        }
        if (cast < 1 || cast > HIGHEST_CAST) {
            return BAD_VALUE;
        }
        return game.reason(piece, cast);
    }

    public int count(int what) {
        switch (what) {
            case 0:
            case 1:
            case 2:
                return game.settings[what];
            case 3:
                return game.x;
            case 4:
                return game.player;
            case 5:
                return game.thrown;
            case 6:
                return game.turns;
            case 7:
                return game.casts;
            case 8:
                return game.board.winner();
            case 9:
            case 10:
            case 11:
            case 12:
                return game.board.homeOf(what - 9);
            case 13:
                return game.board.sentBackInAll();
            case 14:
                return game.board.fallenSet();
            case 15:
                return game.board.falls;
            case 16:
                return pad.length;
            case 17:
                return history.size;
            default:
                return BAD_VALUE;
        }
    }

    // ---- what if; nothing changes

    public int best() {
        if (!game.hasThrow()) {
            return NOT_POSSIBLE;
        }
        int piece = game.bestPiece();
        return piece == NONE ? NONE : piece % TEAM;
    }

    public int needs(int piece, int way) {
        if (isNoPiece(piece)) {
            return NO_SUCH;
        }
        if (way != 0 && way != 1) {
            return BAD_VALUE;
        }
        int player = piece / TEAM;
        int at = game.board.progress[piece];
        // From the yard one throw brings it to the progress 0: ENTERS is 6 at most.
        int coming = at == YARD ? 1 : 0;
        int from = at == YARD ? 0 : at;
        return coming + (way == 0
                ? route.fromHomeOn(game.board, player, from)
                : route.goingWide(game.board, player, from));
    }

    public int nextCast(int ahead) {
        if (ahead < 0 || ahead > MOST_AHEAD) {
            return BAD_VALUE;
        }
        int x = game.x;
        for (int i = 0; i <= ahead; i++) {
            x = nextX(x);
        }
        return castOf(x);
    }

    public int untilOver() {
        if (game.hasThrow()) {
            return NOT_POSSIBLE;
        }
        trial.copyFrom(game);
        int made = trial.playOn(OVER_WITHIN);
        return trial.isOver() ? made : NONE;
    }

    // ---- texts

    public int put(long characters) {
        int length = lengthOf(characters);
        if (length == 0) {
            return BAD_VALUE;
        }
        if (pad.length + length > PAD_ROOM) {
            return TOO_MANY;
        }
        pad.append(characters, length);
        return pad.length;
    }

    public int wipe() {
        int before = pad.length;
        pad.length = 0;
        return before;
    }

    public int fault() {
        return pad.faultIndex();
    }

    // ---- undo, saving

    public int undo() {
        if (!history.takeBack(game)) {
            return NOT_POSSIBLE;
        }
        return history.size;
    }

    public int save(int slot) {
        if (slot < 0 || slot >= SLOTS) {
            return BAD_VALUE;
        }
        Game kept = slots[slot];
        if (kept == null) {
            kept = new Game();
            slots[slot] = kept;
        }
        kept.copyFrom(game);
        return game.turns;
    }

    public int restore(int slot) {
        if (slot < 0 || slot >= SLOTS) {
            return BAD_VALUE;
        }
        Game kept = slots[slot];
        if (kept == null) {
            return NOT_POSSIBLE;
        }
        history.remember(game);
        game.copyFrom(kept);
        return game.turns;
    }

    // ---- small questions without a state

    private static boolean isNoPiece(int piece) {
        return piece < 0 || piece >= PIECES;
    }

    private static boolean isOnRing(int progress) {
        return progress >= 0 && progress < FIELDS;
    }

    private static boolean isSafe(int field) {
        return field >= 0 && field % QUARTER == 0;
    }

    private static int bridgeOn(int field) {
        return field >= 0 && field < FIELDS && field % QUARTER == BRIDGE_IN_QUARTER ? field / QUARTER : NONE;
    }

    /** NONE off the ring: who asks there for a bridge, a safe field or other players finds none. */
    private static int ringField(int player, int progress) {
        return progress >= 0 && progress < FIELDS ? (QUARTER * player + progress) % FIELDS : NONE;
    }

    private static int nextX(int x) {
        return (int) ((x * 1103515245L + 12345L) % 2147483648L);
    }

    private static int castOf(int x) {
        return 1 + x / 65536 % HIGHEST_CAST;
    }

    /** 0 for a wrong number, too, since put() refuses it just as one without characters. */
    private static int lengthOf(long characters) {
        long rest = characters;
        int length = 0;
        while (length < CHARACTERS_A_PUT && (rest & 255) != 0) {
            long code = rest & 255;
            if (code < 33 || code > 126) {
                return 0;
            }
            rest >>>= 8;
            length++;
        }
        return rest == 0 ? length : 0;
    }

    /** What does not depend on whose turn it is: the pieces and the bridges. */
    private static final class Board {
        private final int[] progress = new int[PIECES];
        private final int[] sentBack = new int[PIECES];
        private final int[] bridges = new int[BRIDGES];
        private final int[] fellIn = new int[BRIDGES];
        private int falls = 0;

        private Board() {
            for (int piece = 0; piece < PIECES; piece++) {
                progress[piece] = YARD;
            }
            for (int bridge = 0; bridge < BRIDGES; bridge++) {
                bridges[bridge] = STANDING;
            }
        }

        private void copyFrom(Board other) {
            System.arraycopy(other.progress, 0, progress, 0, PIECES);
            System.arraycopy(other.sentBack, 0, sentBack, 0, PIECES);
            System.arraycopy(other.bridges, 0, bridges, 0, BRIDGES);
            System.arraycopy(other.fellIn, 0, fellIn, 0, BRIDGES);
            falls = other.falls;
        }

        private int fieldOf(int piece) {
            return ringField(piece / TEAM, progress[piece]);
        }

        private int piecesOn(int field) {
            int found = 0;
            for (int piece = 0; piece < PIECES; piece++) {
                if (ringField(piece / TEAM, progress[piece]) == field) {
                    found++;
                }
            }
            return found;
        }

        private int lowestOn(int field) {
            for (int piece = 0; piece < PIECES; piece++) {
                if (ringField(piece / TEAM, progress[piece]) == field) {
                    return piece;
                }
            }
            return NONE;
        }

        /** None off the ring: each player has a lane and a home of its own. */
        private int rivalsAt(int player, int at) {
            int field = ringField(player, at);
            int found = 0;
            for (int piece = 0; piece < PIECES && field != NONE; piece++) {
                if (piece / TEAM != player && ringField(piece / TEAM, progress[piece]) == field) {
                    found++;
                }
            }
            return found;
        }

        /** The piece itself is left out: it takes no room from itself. */
        private int matesAt(int piece, int at) {
            int first = piece - piece % TEAM;
            int found = 0;
            for (int mate = first; mate < first + TEAM; mate++) {
                if (mate != piece && progress[mate] == at) {
                    found++;
                }
            }
            return found;
        }

        private boolean isInPair(int piece) {
            return isOnRing(progress[piece]) && matesAt(piece, progress[piece]) > 0;
        }

        /** In the yard and at home there is room for all. */
        private boolean isFullFor(int piece, int at) {
            return at != YARD && at != HOME && matesAt(piece, at) >= PAIR;
        }

        private boolean hasRoomFor(int piece, int at) {
            int player = piece / TEAM;
            return rivalsAt(player, at) == 0 && !isFullFor(piece, at) && !isFallenAt(player, at);
        }

        private int homeOf(int player) {
            int found = 0;
            for (int piece = player * TEAM; piece < player * TEAM + TEAM; piece++) {
                if (progress[piece] == HOME) {
                    found++;
                }
            }
            return found;
        }

        private int winner() {
            for (int player = 0; player < PLAYERS; player++) {
                if (homeOf(player) == TEAM) {
                    return player;
                }
            }
            return NONE;
        }

        private int sentBackInAll() {
            int sum = 0;
            for (int piece = 0; piece < PIECES; piece++) {
                sum += sentBack[piece];
            }
            return sum;
        }

        private int bridgeState(int field) {
            int bridge = bridgeOn(field);
            return bridge == NONE ? NO_BRIDGE : bridges[bridge];
        }

        private boolean isFallenAt(int player, int at) {
            int bridge = bridgeOn(ringField(player, at));
            return bridge != NONE && bridges[bridge] == FALLEN;
        }

        private int fallenSet() {
            int set = 0;
            for (int bridge = 0; bridge < BRIDGES; bridge++) {
                if (bridges[bridge] == FALLEN) {
                    set |= 1 << bridge;
                }
            }
            return set;
        }

        /** NOWHERE if the throw cannot be used up just so, whichever way it fails: all of these are one reason. */
        private int target(int player, int from, int cast) {
            if (from == YARD) {
                return 0;
            }
            int at = from;
            int left = cast;
            while (left > 0 && at < HOME) {
                at++;
                left -= isFallenAt(player, at) ? 2 : 1;
            }
            return left != 0 || isFallenAt(player, at) ? NOWHERE : at;
        }

        /** A field never holds pieces of two players, so two rivals on it are a pair. */
        private boolean isBlockedOnWay(int player, int from, int to) {
            int first = from == YARD ? 0 : from + 1;
            for (int at = first; at <= to; at++) {
                if (rivalsAt(player, at) >= PAIR) {
                    return true;
                }
            }
            return false;
        }

        private void sendRivalsBack(int player, int at) {
            int field = ringField(player, at);
            for (int piece = 0; piece < PIECES && field != NONE; piece++) {
                if (piece / TEAM != player && ringField(piece / TEAM, progress[piece]) == field) {
                    progress[piece] = YARD;
                    sentBack[piece]++;
                }
            }
        }

        private void place(int piece, int at, int turn) {
            progress[piece] = at;
            strainAndFall(turn);
        }

        /** Looked at behind the whole change: a bridge whose piece is sent back holds the one that came. */
        private void strainAndFall(int turn) {
            for (int bridge = 0; bridge < BRIDGES; bridge++) {
                int pieces = piecesOn(QUARTER * bridge + BRIDGE_IN_QUARTER);
                if (bridges[bridge] == STANDING && pieces >= PAIR) {
                    bridges[bridge] = STRAINED;
                } else if (bridges[bridge] == STRAINED && pieces == 0) {
                    bridges[bridge] = FALLEN;
                    fellIn[bridge] = turn;
                    falls++;
                }
            }
        }

        private void mend(int turn, int mends) {
            for (int bridge = 0; bridge < BRIDGES; bridge++) {
                if (bridges[bridge] == FALLEN && mends != 0 && turn - fellIn[bridge] >= mends) {
                    bridges[bridge] = STANDING;
                }
            }
        }
    }

    /** All that is undone and saved: the board, the settings, x and the turn. */
    private static final class Game {
        private final Board board = new Board();
        private final int[] settings = new int[SETTINGS];
        private int x = 1;
        private int player = 0;
        private int thrown = NONE;
        private int turns = 1;
        private int casts = 0;

        private Game() {
            System.arraycopy(FIRST_VALUE, 0, settings, 0, SETTINGS);
        }

        private void copyFrom(Game other) {
            board.copyFrom(other.board);
            System.arraycopy(other.settings, 0, settings, 0, SETTINGS);
            x = other.x;
            player = other.player;
            thrown = other.thrown;
            turns = other.turns;
            casts = other.casts;
        }

        private boolean isOver() {
            return board.winner() != NONE;
        }

        private boolean hasThrow() {
            return thrown != NONE;
        }

        private int reason(int piece, int cast) {
            int mover = piece / TEAM;
            int from = board.progress[piece];
            if (from == HOME) {
                return IS_HOME;
            }
            if (from == YARD && cast < settings[ENTERS]) {
                return NEEDS_HIGHER;
            }
            int to = board.target(mover, from, cast);
            if (to == NOWHERE) {
                return NOT_JUST_SO;
            }
            if (board.isBlockedOnWay(mover, from, to)) {
                return IS_BLOCKED;
            }
            if (board.isFullFor(piece, to)) {
                return IS_FULL;
            }
            if (isSafe(ringField(mover, to)) && board.rivalsAt(mover, to) > 0) {
                return IS_SAFE;
            }
            return FREE;
        }

        private boolean canMoveBy(int cast) {
            for (int piece = player * TEAM; piece < player * TEAM + TEAM; piece++) {
                if (reason(piece, cast) == FREE) {
                    return true;
                }
            }
            return false;
        }

        /** As the board numbers the pieces, 0 to 11, since it is moved on the board. */
        private int bestPiece() {
            int found = NONE;
            int foundWorth = 0;
            for (int piece = player * TEAM; piece < player * TEAM + TEAM; piece++) {
                if (reason(piece, thrown) == FREE) {
                    int worth = worthOfMove(piece);
                    if (found == NONE || worth > foundWorth) {
                        found = piece;
                        foundWorth = worth;
                    }
                }
            }
            return found;
        }

        /** A better kind weighs more than any progress, which is far smaller than 100. */
        private int worthOfMove(int piece) {
            int from = board.progress[piece];
            int to = board.target(player, from, thrown);
            int kind = 0;
            if (to == HOME) {
                kind = 3;
            } else if (board.rivalsAt(player, to) > 0) {
                kind = 2;
            } else if (isOnRing(to) && board.matesAt(piece, to) > 0) {
                kind = 1;
            }
            return kind * 100 + from;
        }

        private void throwByX() {
            x = nextX(x);
            takeThrow(castOf(x));
        }

        private void takeThrow(int cast) {
            thrown = cast;
            casts++;
        }

        /** Only for a piece that can be moved by the throw: who calls has asked for the reason already. */
        private int moveByThrow(int piece) {
            int to = board.target(player, board.progress[piece], thrown);
            board.sendRivalsBack(player, to);
            board.place(piece, to, turns);
            endThrow();
            return to;
        }

        private void endThrow() {
            boolean again = thrown == HIGHEST_CAST && casts <= settings[AGAINS];
            thrown = NONE;
            if (!again && !isOver()) {
                beginTurn();
            }
        }

        private void beginTurn() {
            player = (player + 1) % PLAYERS;
            turns++;
            casts = 0;
            board.mend(turns, settings[MENDS]);
        }

        /** Answers how many throws are made, which are fewer than asked for if the game ends by one. */
        private int playOn(int most) {
            int made = 0;
            while (made < most && !isOver()) {
                throwByX();
                int piece = bestPiece();
                if (piece == NONE) {
                    endThrow();
                } else {
                    moveByThrow(piece);
                }
                made++;
            }
            return made;
        }

        /** NONE is passing. The throw is taken last: by a move that is not possible nothing may have changed. */
        private boolean makeMove(int cast, int teamPiece) {
            if (teamPiece == NONE) {
                if (canMoveBy(cast)) {
                    return false;
                }
                takeThrow(cast);
                endThrow();
                return true;
            }
            int piece = player * TEAM + teamPiece;
            if (reason(piece, cast) != FREE) {
                return false;
            }
            takeThrow(cast);
            moveByThrow(piece);
            return true;
        }

        private int turnsUntilMended(int field) {
            int bridge = bridgeOn(field);
            if (bridge == NONE || board.bridges[bridge] != FALLEN || settings[MENDS] == 0) {
                return NONE;
            }
            // MENDS may have been set lower since: the next turn that begins mends it then.
            return Math.max(1, settings[MENDS] - (turns - board.fellIn[bridge]));
        }
    }

    /** The board may hold any pieces: a way is told by its bridges alone. The row is made once and used again. */
    private static final class Route {
        private final int[] needed = new int[HOME + 1];

        private int fromHomeOn(Board board, int player, int from) {
            needed[HOME] = 0;
            for (int at = HOME - 1; at >= from; at--) {
                // More than any progress needs: HOME steps of 1 and no less.
                int fewest = HOME + 1;
                for (int cast = 1; cast <= HIGHEST_CAST; cast++) {
                    int to = board.target(player, at, cast);
                    if (to != NOWHERE) {
                        fewest = Math.min(fewest, needed[to] + 1);
                    }
                }
                needed[at] = fewest;
            }
            return needed[from];
        }

        private int goingWide(Board board, int player, int from) {
            for (int at = 0; at <= HOME; at++) {
                needed[at] = NONE;
            }
            needed[from] = 0;
            for (int round = 0; round <= HOME && needed[HOME] == NONE; round++) {
                widen(board, player, round);
            }
            return needed[HOME];
        }

        private void widen(Board board, int player, int round) {
            for (int at = 0; at < HOME; at++) {
                for (int cast = 1; cast <= HIGHEST_CAST && needed[at] == round; cast++) {
                    int to = board.target(player, at, cast);
                    if (to != NOWHERE && needed[to] == NONE) {
                        needed[to] = round + 1;
                    }
                }
            }
        }
    }

    /** Its moves may be asked for only if it has no fault: each has a digit and a letter or "-" then. */
    private static final class Pad {
        private final char[] text = new char[PAD_ROOM];
        private int length = 0;

        /** For characters of this length that there is room for. */
        private void append(long characters, int more) {
            for (int i = more - 1; i >= 0 && length < PAD_ROOM; i--) {
                text[length] = (char) ((characters >>> (8 * i)) & 255);
                length++;
            }
        }

        private int faultIndex() {
            for (int i = 0; i < length; i++) {
                if (!(i % 2 == 0 ? isCast(text[i]) : isPieceOrPass(text[i]))) {
                    return i;
                }
            }
            return length == 0 || length % 2 == 1 ? length : NONE;
        }

        private static boolean isCast(char sign) {
            return sign >= '1' && sign <= '6';
        }

        private static boolean isPieceOrPass(char sign) {
            return sign >= 'a' && sign <= 'c' || sign == '-';
        }

        private int moves() {
            return length / 2;
        }

        private int castOfMove(int move) {
            return text[2 * move] - '0';
        }

        private int pieceOfMove(int move) {
            char sign = text[2 * move + 1];
            return sign == '-' ? NONE : sign - 'a';
        }
    }

    /** A ring of rooms that are used again, so that a change makes no new state once they are there. */
    private static final class History {
        private final Game[] states = new Game[HISTORY_ROOM];
        private int next = 0;
        private int size = 0;

        private void remember(Game now) {
            Game room = states[next];
            if (room == null) {
                room = new Game();
                states[next] = room;
            }
            room.copyFrom(now);
            next = (next + 1) % HISTORY_ROOM;
            size = Math.min(size + 1, HISTORY_ROOM);
        }

        /** Puts the latest state back; false if there is none. */
        private boolean takeBack(Game into) {
            int latest = (next + HISTORY_ROOM - 1) % HISTORY_ROOM;
            Game state = states[latest];
            if (size == 0 || state == null) {
                return false;
            }
            into.copyFrom(state);
            next = latest;
            size--;
            return true;
        }
    }
}
