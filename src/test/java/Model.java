import java.math.BigInteger;
import java.util.ArrayDeque;
import java.util.ArrayList;
import java.util.Arrays;
import java.util.Comparator;
import java.util.Deque;
import java.util.List;

/** The document once more, written in another way than the program, without a thought for speed. */
final class Model {
    static final int NO_SUCH = -1, BAD_VALUE = -2, BAD_TEXT = -3, TOO_MANY = -4, NOT_POSSIBLE = -5, NONE = -6;

    /** A piece: its progress as told, and how often it was sent back. */
    private static final class Piece {
        final int player;
        int progress = NONE;
        int sent = 0;

        Piece(int player) {
            this.player = player;
        }

        int field() {
            return fieldFor(player, progress);
        }
    }

    private static final class Bridge {
        boolean strained = false;
        Integer fellInTurn = null;
    }

    private static final class State {
        List<Piece> pieces = new ArrayList<>();
        List<Bridge> bridges = new ArrayList<>();
        int[] settings = {5, 0, 1};
        BigInteger x = BigInteger.ONE;
        Integer cast = null;
        int turns = 1;
        int player = 0;
        int casts = 0;
        int falls = 0;

        State() {
            for (int i = 0; i < 12; i++) {
                pieces.add(new Piece(i / 3));
            }
            for (int i = 0; i < 4; i++) {
                bridges.add(new Bridge());
            }
        }

        State twin() {
            State twin = new State();
            for (int i = 0; i < 12; i++) {
                twin.pieces.get(i).progress = pieces.get(i).progress;
                twin.pieces.get(i).sent = pieces.get(i).sent;
            }
            for (int i = 0; i < 4; i++) {
                twin.bridges.get(i).strained = bridges.get(i).strained;
                twin.bridges.get(i).fellInTurn = bridges.get(i).fellInTurn;
            }
            twin.settings = settings.clone();
            twin.x = x;
            twin.cast = cast;
            twin.turns = turns;
            twin.player = player;
            twin.casts = casts;
            twin.falls = falls;
            return twin;
        }

        List<Piece> on(int field) {
            return pieces.stream().filter(p -> p.field() == field).toList();
        }

        int winner() {
            for (int player = 0; player < 4; player++) {
                if (atHome(player) == 3) {
                    return player;
                }
            }
            return NONE;
        }

        int atHome(int player) {
            return (int) pieces.stream().filter(p -> p.player == player && p.progress == 35).count();
        }

        boolean fallen(int field) {
            return field >= 0 && field % 8 == 4 && bridges.get(field / 8).fellInTurn != null;
        }

        boolean pairOfOthers(int player, int field) {
            return on(field).stream().filter(p -> p.player != player).count() >= 2;
        }

        /** The progresses that a piece goes to, one after the other, or null if the throw does not fit. */
        List<Integer> way(int player, int from, int cast) {
            if (from == NONE) {
                return List.of(0);
            }
            List<Integer> way = new ArrayList<>();
            int left = cast;
            int at = from;
            while (left > 0) {
                at++;
                if (at > 35) {
                    return null;
                }
                if (fallen(fieldFor(player, at))) {
                    if (left == 1 || left == 2) {
                        return null;
                    }
                    left -= 2;
                } else {
                    left--;
                }
                way.add(at);
            }
            return way;
        }

        int reason(int number, int cast) {
            Piece piece = pieces.get(number);
            if (piece.progress == 35) {
                return 1;
            }
            if (piece.progress == NONE && cast < settings[0]) {
                return 2;
            }
            List<Integer> way = way(piece.player, piece.progress, cast);
            if (way == null) {
                return 3;
            }
            for (int at : way) {
                if (at <= 31 && pairOfOthers(piece.player, fieldFor(piece.player, at))) {
                    return 4;
                }
            }
            int last = way.get(way.size() - 1);
            long own = pieces.stream()
                    .filter(p -> p != piece && p.player == piece.player && p.progress == last).count();
            if (last < 35 && own >= 2) {
                return 5;
            }
            int field = fieldFor(piece.player, last);
            if (List.of(0, 8, 16, 24).contains(field) && on(field).stream().anyMatch(p -> p.player != piece.player)) {
                return 6;
            }
            return 0;
        }

        int last(int number, int cast) {
            List<Integer> way = way(number / 3, pieces.get(number).progress, cast);
            return way.get(way.size() - 1);
        }

        List<Integer> movable(int cast) {
            List<Integer> movable = new ArrayList<>();
            for (int own = 0; own < 3; own++) {
                if (reason(3 * player + own, cast) == 0) {
                    movable.add(own);
                }
            }
            return movable;
        }

        int kind(int own) {
            int number = 3 * player + own;
            int last = last(number, cast);
            if (last == 35) {
                return 0;
            }
            int field = fieldFor(player, last);
            if (field != NONE && on(field).stream().anyMatch(p -> p.player != player)) {
                return 1;
            }
            return field != NONE && on(field).stream().anyMatch(p -> p.player == player) ? 2 : 3;
        }

        int best() {
            Comparator<Integer> byKind = Comparator.comparing(this::kind);
            Comparator<Integer> byProgress = Comparator.comparing(own -> -pieces.get(3 * player + own).progress);
            return movable(cast).stream().min(byKind.thenComparing(byProgress)).orElse(NONE);
        }

        void castByX() {
            x = behind(x);
            cast = told(x);
            casts++;
        }

        int moveOwn(int own) {
            int number = 3 * player + own;
            int last = last(number, cast);
            int field = fieldFor(player, last);
            if (field != NONE) {
                for (Piece other : on(field)) {
                    if (other.player != player) {
                        other.progress = NONE;
                        other.sent++;
                    }
                }
            }
            pieces.get(number).progress = last;
            bridgesAsTold();
            endCast();
            return last;
        }

        void bridgesAsTold() {
            for (int i = 0; i < 4; i++) {
                Bridge bridge = bridges.get(i);
                int here = on(8 * i + 4).size();
                if (bridge.fellInTurn == null && here >= 2) {
                    bridge.strained = true;
                }
                if (bridge.strained && here == 0) {
                    bridge.strained = false;
                    bridge.fellInTurn = turns;
                    falls++;
                }
            }
        }

        void endCast() {
            boolean again = cast == 6 && casts <= settings[2];
            cast = null;
            if (again || winner() != NONE) {
                return;
            }
            player = player == 3 ? 0 : player + 1;
            turns++;
            casts = 0;
            for (Bridge bridge : bridges) {
                if (bridge.fellInTurn != null && settings[1] > 0 && turns - bridge.fellInTurn >= settings[1]) {
                    bridge.fellInTurn = null;
                }
            }
        }

        int playOn(int most) {
            for (int made = 0; made < most; made++) {
                if (winner() != NONE) {
                    return made;
                }
                castByX();
                int best = best();
                if (best == NONE) {
                    endCast();
                } else {
                    moveOwn(best);
                }
            }
            return most;
        }

        /** By trying every throw, again and again. */
        int fewest(int player, int from, Integer[] known) {
            if (from == 35) {
                return 0;
            }
            if (from == NONE) {
                return 1 + fewest(player, 0, known);
            }
            if (known[from] == null) {
                int fewest = 1000;
                for (int cast = 1; cast <= 6; cast++) {
                    List<Integer> way = way(player, from, cast);
                    if (way != null) {
                        fewest = Math.min(fewest, 1 + fewest(player, way.get(way.size() - 1), known));
                    }
                }
                known[from] = fewest;
            }
            return known[from];
        }
    }

    private State state = new State();
    private String pad = "";
    private final Deque<State> history = new ArrayDeque<>();
    private final State[] slots = new State[2];

    private static int fieldFor(int player, int progress) {
        return progress < 0 || progress > 31 ? NONE : (8 * player + progress) % 32;
    }

    private static BigInteger behind(BigInteger x) {
        return x.multiply(BigInteger.valueOf(1103515245)).add(BigInteger.valueOf(12345)).mod(BigInteger.TWO.pow(31));
    }

    private static int told(BigInteger x) {
        return x.shiftRight(16).mod(BigInteger.valueOf(6)).intValue() + 1;
    }

    private static boolean outside(int value, int least, int most) {
        return value < least || value > most;
    }

    private void changes() {
        history.addLast(state.twin());
        if (history.size() > 6) {
            history.removeFirst();
        }
    }

    int set(int setting, int value) {
        int[][] ranges = {{1, 6}, {0, 40}, {0, 3}};
        if (outside(setting, 0, 2) || outside(value, ranges[setting][0], ranges[setting][1])) {
            return BAD_VALUE;
        }
        changes();
        int before = state.settings[setting];
        state.settings[setting] = value;
        return before;
    }

    int seed(int number) {
        if (number < 0) {
            return BAD_VALUE;
        }
        changes();
        int before = state.x.intValue();
        state.x = BigInteger.valueOf(number);
        return before;
    }

    int cast() {
        if (state.winner() != NONE || state.cast != null) {
            return NOT_POSSIBLE;
        }
        changes();
        state.castByX();
        return state.cast;
    }

    int move(int own) {
        if (outside(own, 0, 2)) {
            return NO_SUCH;
        }
        if (state.cast == null || !state.movable(state.cast).contains(own)) {
            return NOT_POSSIBLE;
        }
        changes();
        return state.moveOwn(own);
    }

    int skip() {
        if (state.cast == null || !state.movable(state.cast).isEmpty()) {
            return NOT_POSSIBLE;
        }
        changes();
        state.endCast();
        return state.player;
    }

    int play(int casts) {
        if (outside(casts, 1, 100)) {
            return BAD_VALUE;
        }
        if (state.winner() != NONE || state.cast != null) {
            return NOT_POSSIBLE;
        }
        changes();
        return state.playOn(casts);
    }

    int read() {
        if (fault() != NONE) {
            return BAD_TEXT;
        }
        if (state.cast != null) {
            return NOT_POSSIBLE;
        }
        changes();
        int made = 0;
        for (String rest = pad; !rest.isEmpty() && state.winner() == NONE; rest = rest.substring(2)) {
            int cast = Integer.parseInt(rest.substring(0, 1));
            int own = "abc".indexOf(rest.charAt(1));
            boolean possible = own < 0 ? state.movable(cast).isEmpty() : state.movable(cast).contains(own);
            if (!possible) {
                break;
            }
            state.cast = cast;
            state.casts++;
            if (own < 0) {
                state.endCast();
            } else {
                state.moveOwn(own);
            }
            made++;
        }
        pad = "";
        return made;
    }

    int lay(int number, int progress) {
        if (outside(number, 0, 11)) {
            return NO_SUCH;
        }
        if (progress != NONE && outside(progress, 0, 35)) {
            return BAD_VALUE;
        }
        Piece piece = state.pieces.get(number);
        int field = fieldFor(piece.player, progress);
        if (field != NONE && state.on(field).stream().anyMatch(p -> p.player != piece.player)) {
            return NOT_POSSIBLE;
        }
        long own = state.pieces.stream()
                .filter(p -> p != piece && p.player == piece.player && p.progress == progress).count();
        if (!outside(progress, 0, 34) && own >= 2 || state.fallen(field)) {
            return NOT_POSSIBLE;
        }
        changes();
        int before = piece.progress;
        state.pieces.get(number).progress = progress;
        state.bridgesAsTold();
        return before;
    }

    int piece(int number, int what) {
        if (outside(number, 0, 11)) {
            return NO_SUCH;
        }
        if (outside(what, 0, 3)) {
            return BAD_VALUE;
        }
        Piece piece = state.pieces.get(number);
        int pair = piece.field() != NONE
                && state.on(piece.field()).stream().filter(p -> p.player == piece.player).count() >= 2 ? 1 : 0;
        return new int[] {piece.progress, piece.field(), pair, piece.sent}[what];
    }

    int field(int field, int what) {
        if (outside(field, 0, 31)) {
            return NO_SUCH;
        }
        if (outside(what, 0, 4)) {
            return BAD_VALUE;
        }
        int lowest = state.on(field).isEmpty() ? NONE : state.pieces.indexOf(state.on(field).get(0));
        int bridge = 0;
        int more = NONE;
        if (field % 8 == 4) {
            Bridge here = state.bridges.get(field / 8);
            bridge = here.fellInTurn != null ? 3 : here.strained ? 2 : 1;
            if (bridge == 3 && state.settings[1] != 0) {
                more = Math.max(here.fellInTurn + state.settings[1] - state.turns, 1);
            }
        }
        return new int[] {state.on(field).size(), lowest, field % 8 == 0 ? 1 : 0, bridge, more}[what];
    }

    int why(int number, int cast) {
        if (outside(number, 0, 11)) {
            return NO_SUCH;
        }
        return outside(cast, 1, 6) ? BAD_VALUE : state.reason(number, cast);
    }

    int count(int what) {
        if (outside(what, 0, 17)) {
            return BAD_VALUE;
        }
        int set = 0;
        for (int i = 0; i < 4; i++) {
            set += state.bridges.get(i).fellInTurn != null ? (int) Math.pow(2, i) : 0;
        }
        int[] numbers = {state.settings[0], state.settings[1], state.settings[2], state.x.intValue(), state.player,
            state.cast == null ? NONE : state.cast, state.turns, state.casts, state.winner(), state.atHome(0),
            state.atHome(1), state.atHome(2), state.atHome(3), state.pieces.stream().mapToInt(p -> p.sent).sum(), set,
            state.falls, pad.length(), history.size()};
        return numbers[what];
    }

    int best() {
        return state.cast == null ? NOT_POSSIBLE : state.best();
    }

    int needs(int number, int way) {
        if (outside(number, 0, 11)) {
            return NO_SUCH;
        }
        return outside(way, 0, 1) ? BAD_VALUE
                : state.fewest(number / 3, state.pieces.get(number).progress, new Integer[36]);
    }

    int nextCast(int ahead) {
        if (outside(ahead, 0, 99)) {
            return BAD_VALUE;
        }
        BigInteger x = behind(state.x);
        for (int i = 0; i < ahead; i++) {
            x = behind(x);
        }
        return told(x);
    }

    int untilOver() {
        if (state.cast != null) {
            return NOT_POSSIBLE;
        }
        State trial = state.twin();
        int made = trial.playOn(400);
        return trial.winner() == NONE ? NONE : made;
    }

    int put(long characters) {
        byte[] bytes = BigInteger.valueOf(characters).toByteArray();
        byte[] eight = new byte[8];
        Arrays.fill(eight, (byte) (characters < 0 ? -1 : 0));
        System.arraycopy(bytes, 0, eight, 8 - bytes.length, bytes.length);
        String more = "";
        for (byte one : eight) {
            if (one < 33 || one > 126) {
                if (one != 0 || !more.isEmpty()) {
                    return BAD_VALUE;
                }
            } else {
                more += (char) one;
            }
        }
        if (more.isEmpty()) {
            return BAD_VALUE;
        }
        if (pad.length() + more.length() > 60) {
            return TOO_MANY;
        }
        pad += more;
        return pad.length();
    }

    int wipe() {
        int before = pad.length();
        pad = "";
        return before;
    }

    int fault() {
        for (int i = 0; i < pad.length(); i++) {
            String allowed = i % 2 == 0 ? "123456" : "abc-";
            if (allowed.indexOf(pad.charAt(i)) < 0) {
                return i;
            }
        }
        return pad.matches("([1-6][abc-])+") ? NONE : pad.length();
    }

    int undo() {
        if (history.isEmpty()) {
            return NOT_POSSIBLE;
        }
        state = history.removeLast();
        return history.size();
    }

    int save(int slot) {
        if (outside(slot, 0, 1)) {
            return BAD_VALUE;
        }
        slots[slot] = state.twin();
        return state.turns;
    }

    int restore(int slot) {
        if (outside(slot, 0, 1)) {
            return BAD_VALUE;
        }
        if (slots[slot] == null) {
            return NOT_POSSIBLE;
        }
        changes();
        state = slots[slot].twin();
        return state.turns;
    }
}
