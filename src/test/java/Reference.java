import java.util.ArrayDeque;
import java.util.ArrayList;
import java.util.Deque;
import java.util.HashMap;
import java.util.HashSet;
import java.util.List;
import java.util.Map;
import java.util.Set;
import java.util.TreeSet;
import java.util.regex.Matcher;
import java.util.regex.Pattern;

/**
 * The document a second time, in the plainest words of the Java library and without any code of the class: lists of
 * coins in place of bits, recursion in place of tables. RandomTest compares the two.
 */
final class Reference {
    static final int NONE = -1;

    /** One ladder; coins holds the height of every coin, 0 for the ground. */
    private static final class Ladder {
        int top;
        List<Integer> coins = new ArrayList<>();
        TreeSet<Integer> sizes = new TreeSet<>();
        TreeSet<Integer> locks = new TreeSet<>();
        int claimer = NONE;
        int left;

        Ladder copy() {
            Ladder other = new Ladder();
            other.top = top;
            other.coins.addAll(coins);
            other.sizes.addAll(sizes);
            other.locks.addAll(locks);
            other.claimer = claimer;
            other.left = left;
            return other;
        }

        boolean canGo(Set<Integer> above, int height, int size) {
            int to = height - size;
            return above.contains(height) && sizes.contains(size) && to >= 0
                    && (to == 0 || !locks.contains(to) && !above.contains(to));
        }

        TreeSet<Integer> above() {
            TreeSet<Integer> set = new TreeSet<>(coins);
            set.remove(0);
            return set;
        }

        List<TreeSet<Integer>> behind(Set<Integer> above) {
            List<TreeSet<Integer>> all = new ArrayList<>();
            for (int height : above) {
                for (int size : sizes) {
                    if (canGo(above, height, size)) {
                        TreeSet<Integer> next = new TreeSet<>(above);
                        next.remove(height);
                        if (height > size) {
                            next.add(height - size);
                        }
                        all.add(next);
                    }
                }
            }
            return all;
        }

        int value(Set<Integer> above, Map<Set<Integer>, Integer> known) {
            Integer have = known.get(above);
            if (have != null) {
                return have;
            }
            Set<Integer> seen = new HashSet<>();
            for (TreeSet<Integer> next : behind(above)) {
                seen.add(value(next, known));
            }
            int value = 0;
            while (seen.contains(value)) {
                value++;
            }
            known.put(above, value);
            return value;
        }

        int value(Set<Integer> above) {
            return value(above, new HashMap<>());
        }

        int longest(Set<Integer> above, Map<Set<Integer>, Integer> known) {
            Integer have = known.get(above);
            if (have != null) {
                return have;
            }
            int most = 0;
            for (TreeSet<Integer> next : behind(above)) {
                most = Math.max(most, 1 + longest(next, known));
            }
            known.put(above, most);
            return most;
        }

        Set<Set<Integer>> reachable() {
            Set<Set<Integer>> all = new HashSet<>();
            Deque<TreeSet<Integer>> open = new ArrayDeque<>();
            open.add(above());
            while (!open.isEmpty()) {
                TreeSet<Integer> next = open.remove();
                if (all.add(next)) {
                    open.addAll(behind(next));
                }
            }
            return all;
        }
    }

    private static final class State {
        List<Ladder> ladders = new ArrayList<>();
        int[][] players = {{1, 1, 1, 0, 0, 0}, {1, 1, 1, 0, 0, 0}};
        List<int[]> log = new ArrayList<>();
        int[] ban;
        int player;

        State copy() {
            State other = new State();
            for (Ladder each : ladders) {
                other.ladders.add(each.copy());
            }
            other.players = new int[][] {players[0].clone(), players[1].clone()};
            other.log.addAll(log);
            other.ban = ban;
            other.player = player;
            return other;
        }
    }

    private String buffer = "";
    private State state = new State();
    private final Deque<State> undo = new ArrayDeque<>();
    private final State[] slots = new State[2];

    int append(int a, int b, int c, int d, int e) {
        if (buffer.length() > 380) {
            return NONE;
        }
        StringBuilder more = new StringBuilder(buffer);
        for (int four : new int[] {a, b, c, d, e}) {
            more.append((char) (four >>> 24)).append((char) (four >>> 16 & 255));
            more.append((char) (four >>> 8 & 255)).append((char) (four & 255));
        }
        buffer = more.toString();
        return buffer.length();
    }

    /** Thrown inside parse alone. */
    private static final class Wrong extends RuntimeException {
        private static final long serialVersionUID = 1;
        final int code;

        Wrong(int offset, int kind) {
            code = -2 - (8 * offset + kind);
        }
    }

    private static final Pattern TOKEN = Pattern.compile("[ \\n]*(?:([a-z]+)|([0-9]+)|(;)|(\\z)|([\\x00-\\xff]))");

    private final class Tokens {
        final String text;
        final Matcher matcher;
        int offset;
        String word;

        Tokens(String text) {
            this.text = text;
            matcher = TOKEN.matcher(text);
            next();
        }

        void next() {
            if (!matcher.find()) {
                throw new IllegalStateException();
            }
            for (int group = 1; group <= 5; group++) {
                if (matcher.group(group) != null) {
                    offset = matcher.start(group);
                    word = matcher.group(group);
                    if (group == 5 || group == 1 && word.length() > 8 || group == 2 && word.length() > 2) {
                        word = "?";
                    }
                }
            }
        }

        boolean atNumber() {
            return word.matches("[0-9]+");
        }

        int number(int from, int to) {
            if (!atNumber()) {
                throw new Wrong(offset, 1);
            }
            int number = Integer.parseInt(word);
            if (number < from || number > to) {
                throw new Wrong(offset, 2);
            }
            return number;
        }

        int takeNumber(int from, int to) {
            int number = number(from, to);
            next();
            return number;
        }

        List<Integer> several(int to, int most) {
            List<Integer> all = new ArrayList<>();
            do {
                int number = number(1, to);
                if (all.contains(number)) {
                    throw new Wrong(offset, 3);
                }
                if (all.size() == most) {
                    throw new Wrong(offset, 4);
                }
                all.add(number);
                next();
            } while (atNumber());
            return all;
        }
    }

    int parse(int length) {
        if (length < 0 || length > buffer.length()) {
            throw new IllegalArgumentException();
        }
        String text = buffer.substring(0, length);
        buffer = "";
        try {
            state = read(new Tokens(text));
        } catch (Wrong wrong) {
            return wrong.code;
        }
        undo.clear();
        slots[0] = null;
        slots[1] = null;
        return state.ladders.size();
    }

    private State read(Tokens in) {
        State made = new State();
        Set<String> once = new HashSet<>();
        while (!in.word.isEmpty()) {
            String word = in.word;
            if (!List.of("ladder", "lock", "tokens", "first").contains(word)) {
                throw new Wrong(in.offset, 1);
            }
            if ((word.equals("tokens") || word.equals("first")) && !once.add(word)) {
                throw new Wrong(in.offset, 3);
            }
            if (word.equals("ladder") && made.ladders.size() == 6) {
                throw new Wrong(in.offset, 4);
            }
            in.next();
            switch (word) {
                case "ladder":
                    Ladder ladder = new Ladder();
                    ladder.top = in.takeNumber(1, 12);
                    ladder.coins.addAll(in.several(ladder.top, 3));
                    ladder.sizes.addAll(List.of(1, 2, 3));
                    if (in.word.equals("steps")) {
                        in.next();
                        ladder.sizes = new TreeSet<>(in.several(12, 4));
                    }
                    made.ladders.add(ladder);
                    break;
                case "lock":
                    Ladder locked = made.ladders.get(in.takeNumber(0, made.ladders.size() - 1));
                    int height = in.number(1, locked.top);
                    if (!locked.locks.add(height)) {
                        throw new Wrong(in.offset, 3);
                    }
                    in.next();
                    break;
                case "tokens":
                    for (int kind = 0; kind < 3; kind++) {
                        made.players[0][kind] = in.takeNumber(0, 9);
                        made.players[1][kind] = made.players[0][kind];
                    }
                    break;
                default:
                    made.player = in.takeNumber(0, 1);
            }
            if (!in.word.equals(";")) {
                throw new Wrong(in.offset, 1);
            }
            in.next();
        }
        return made;
    }

    private Ladder at(int ladder) {
        if (ladder < 0 || ladder >= state.ladders.size()) {
            throw new IndexOutOfBoundsException();
        }
        return state.ladders.get(ladder);
    }

    private static void need(boolean holds) {
        if (!holds) {
            throw new IllegalArgumentException();
        }
    }

    private boolean over() {
        for (Ladder each : state.ladders) {
            if (!each.behind(each.above()).isEmpty()) {
                return false;
            }
        }
        return true;
    }

    int size(int what) {
        switch (what) {
            case 0: return state.ladders.size();
            case 1: return state.player;
            case 2: return state.log.size();
            case 3: return over() ? 1 : 0;
            case 4: return over() ? 1 - state.player : NONE;
            case 5: return undo.size();
            default: throw new IllegalArgumentException();
        }
    }

    int ladder(int ladder, int what) {
        Ladder one = at(ladder);
        switch (what) {
            case 0: return one.top;
            case 1: return one.coins.size();
            case 2: return one.coins.size() - one.above().size();
            case 3: return one.value(one.above());
            case 4: return one.claimer;
            case 5: return one.left;
            default: throw new IllegalArgumentException();
        }
    }

    int set(int ladder, int what) {
        Ladder one = at(ladder);
        need(what >= 0 && what <= 2);
        Set<Integer> set = what == 0 ? one.above() : what == 1 ? one.locks : one.sizes;
        int bits = 0;
        for (int k : set) {
            bits += 1 << k;
        }
        return bits;
    }

    int player(int player, int what) {
        if (player != 0 && player != 1) {
            throw new IndexOutOfBoundsException();
        }
        need(what >= 0 && what <= 5);
        return state.players[player][what];
    }

    int act(int k, int what) {
        need(what >= 0 && what <= 4);
        if (k < 0 || k > 15 || k >= state.log.size()) {
            return NONE;
        }
        return state.log.get(state.log.size() - 1 - k)[what];
    }

    int valueOf(int ladder, int coins) {
        Ladder one = at(ladder);
        TreeSet<Integer> above = new TreeSet<>();
        for (int k = 0; k < 32; k++) {
            if ((coins >>> k & 1) == 1) {
                above.add(k);
            }
        }
        need(above.size() <= one.coins.size());
        need(above.isEmpty() || above.first() >= 1 && above.last() <= one.top);
        return one.value(above);
    }

    int sum() {
        int sum = 0;
        for (Ladder each : state.ladders) {
            sum ^= each.value(each.above());
        }
        return sum;
    }

    int stepsOn(int ladder) {
        return at(ladder).behind(at(ladder).above()).size();
    }

    int longest(int ladder) {
        return at(ladder).longest(at(ladder).above(), new HashMap<>());
    }

    int positions(int ladder) {
        return at(ladder).reachable().size();
    }

    double meanValue(int ladder) {
        Ladder one = at(ladder);
        int total = 0;
        Map<Set<Integer>, Integer> known = new HashMap<>();
        for (Set<Integer> each : one.reachable()) {
            total += one.value(each, known);
        }
        return (double) total / one.reachable().size();
    }

    boolean isRight() {
        return true;
    }

    private List<int[]> choices() {
        List<int[]> all = new ArrayList<>();
        for (int ladder = 0; ladder < 6; ladder++) {
            for (int height = 12; height >= 1; height--) {
                for (int size = 1; size <= 12; size++) {
                    if (whyNotStep(ladder, height, size) == 0) {
                        all.add(new int[] {ladder, height, size});
                    }
                }
            }
        }
        return all;
    }

    int allowed() {
        return choices().size();
    }

    private int sumBehind(int[] step) {
        State before = state;
        state = state.copy();
        Ladder one = state.ladders.get(step[0]);
        one.coins.set(one.coins.indexOf(step[1]), step[1] - step[2]);
        int sum = sum();
        state = before;
        return sum;
    }

    int choice(int k, int what) {
        List<int[]> all = choices();
        if (k < 0 || k >= all.size()) {
            throw new IndexOutOfBoundsException();
        }
        need(what >= 0 && what <= 3);
        return what == 3 ? sumBehind(all.get(k)) : all.get(k)[what];
    }

    int best() {
        List<int[]> all = choices();
        for (int k = 0; k < all.size(); k++) {
            if (sumBehind(all.get(k)) == 0) {
                return k;
            }
        }
        return NONE;
    }

    int whyNotStep(int ladder, int height, int size) {
        if (over()) {
            return 1;
        }
        if (ladder < 0 || ladder >= state.ladders.size()) {
            return 2;
        }
        Ladder one = state.ladders.get(ladder);
        if (height == 0 || !one.coins.contains(height)) {
            return 3;
        }
        if (!one.sizes.contains(size)) {
            return 4;
        }
        if (size > height) {
            return 5;
        }
        if (one.locks.contains(height - size)) {
            return 6;
        }
        if (height > size && one.coins.contains(height - size)) {
            return 7;
        }
        if (one.claimer != NONE && one.claimer != state.player) {
            return 8;
        }
        int[] ban = state.ban;
        return ban != null && ban[0] == ladder && ban[1] == height && ban[2] == size ? 9 : 0;
    }

    int whyNotClaim(int ladder) {
        if (over()) {
            return 1;
        }
        if (ladder < 0 || ladder >= state.ladders.size()) {
            return 2;
        }
        if (state.ladders.get(ladder).claimer != NONE) {
            return 3;
        }
        return state.players[state.player][0] == 0 ? 4 : 0;
    }

    int whyNotLock(int ladder, int height) {
        if (over()) {
            return 1;
        }
        if (ladder < 0 || ladder >= state.ladders.size()) {
            return 2;
        }
        Ladder one = state.ladders.get(ladder);
        if (height < 1 || height > one.top) {
            return 3;
        }
        if (one.locks.contains(height)) {
            return 4;
        }
        if (one.coins.contains(height)) {
            return 5;
        }
        return state.players[state.player][1] == 0 ? 6 : 0;
    }

    int whyNotBack() {
        if (state.log.isEmpty() || state.log.get(state.log.size() - 1)[0] != 0) {
            return 1;
        }
        return state.players[state.player][2] == 0 ? 2 : 0;
    }

    private void remember() {
        undo.push(state.copy());
        if (undo.size() > 10) {
            undo.removeLast();
        }
    }

    /** The act's row; the ban and the claims of earlier acts; then the other has to act. */
    private void acted(int kind, int ladder, int height, int size) {
        state.log.add(new int[] {kind, state.player, ladder, height, size});
        state.ban = null;
        for (Ladder each : state.ladders) {
            if (each.claimer != NONE) {
                each.left--;
                if (each.left == 0) {
                    each.claimer = NONE;
                }
            }
        }
        state.player = 1 - state.player;
    }

    private void doStep(int ladder, int height, int size) {
        List<Integer> coins = state.ladders.get(ladder).coins;
        coins.set(coins.indexOf(height), height - size);
        state.players[state.player][3]++;
        state.players[state.player][4] += size;
        acted(0, ladder, height, size);
    }

    int step(int ladder, int height, int size) {
        need(whyNotStep(ladder, height, size) == 0);
        remember();
        doStep(ladder, height, size);
        return sum();
    }

    int claim(int ladder) {
        need(whyNotClaim(ladder) == 0);
        remember();
        int who = state.player;
        int left = --state.players[who][0];
        acted(1, ladder, NONE, NONE);
        state.ladders.get(ladder).claimer = who;
        state.ladders.get(ladder).left = 3;
        return left;
    }

    int lock(int ladder, int height) {
        need(whyNotLock(ladder, height) == 0);
        remember();
        state.players[state.player][1]--;
        state.ladders.get(ladder).locks.add(height);
        acted(2, ladder, height, NONE);
        return ladder(ladder, 3);
    }

    int back() {
        if (whyNotBack() != 0) {
            throw new IllegalStateException();
        }
        remember();
        int[] latest = state.log.get(state.log.size() - 1);
        List<Integer> coins = state.ladders.get(latest[2]).coins;
        coins.set(coins.indexOf(latest[3] - latest[4]), latest[3]);
        state.players[state.player][2]--;
        acted(3, latest[2], latest[3], latest[4]);
        state.ban = new int[] {latest[2], latest[3], latest[4]};
        return sum();
    }

    private void doPass() {
        state.players[state.player][5]++;
        acted(4, NONE, NONE, NONE);
    }

    int pass() {
        if (over() || allowed() > 0) {
            throw new IllegalStateException();
        }
        remember();
        doPass();
        return state.player;
    }

    int play(int acts) {
        need(acts >= 1 && acts <= 60);
        remember();
        int made = 0;
        while (made < acts && !over()) {
            List<int[]> all = choices();
            if (all.isEmpty()) {
                doPass();
            } else {
                int best = best();
                int[] step = all.get(best == NONE ? 0 : best);
                doStep(step[0], step[1], step[2]);
            }
            made++;
        }
        return made;
    }

    int undo() {
        if (undo.isEmpty()) {
            return NONE;
        }
        state = undo.pop();
        return undo.size();
    }

    boolean saveSnapshot(int slot) {
        if (slot != 0 && slot != 1) {
            return false;
        }
        slots[slot] = state.copy();
        return true;
    }

    boolean restoreSnapshot(int slot) {
        if (slot != 0 && slot != 1 || slots[slot] == null) {
            return false;
        }
        state = slots[slot].copy();
        undo.clear();
        return true;
    }
}
