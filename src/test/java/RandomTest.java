import java.util.ArrayList;
import java.util.List;
import java.util.function.Supplier;

/** Long runs of calls, made from fixed seeds, on an object and on the Reference: every answer must be the same. */
public final class RandomTest {
    private static final int GAMES = 250;
    private static final int MOST_CALLS = 512;

    private long seed;
    private CoinLadders real;
    private Reference model;
    private final List<String> calls = new ArrayList<>();
    private boolean same = true;

    private RandomTest(long seed) {
        this.seed = seed * 2654435761L + 99991;
    }

    public static void main(String[] args) {
        int games = args.length > 0 ? Integer.parseInt(args[0]) : GAMES;
        int wrong = 0;
        long compared = 0;
        for (int i = 0; i < games && wrong < 3; i++) {
            RandomTest run = new RandomTest(i);
            run.play(i % 3 == 0);
            compared += run.calls.size();
            wrong += run.same ? 0 : 1;
        }
        System.out.println("RandomTest: " + compared + " compared, " + wrong + " wrong");
        if (wrong != 0) {
            System.exit(1);
        }
    }

    private int below(int bound) {
        seed ^= seed << 13;
        seed ^= seed >>> 7;
        seed ^= seed << 17;
        return (int) ((seed >>> 1) % bound);
    }

    private int between(int from, int to) {
        return from + below(to - from + 1);
    }

    private boolean oneOf(int n) {
        return below(n) == 0;
    }

    /** Mostly from the range, at times next to it, and now and then anything. */
    private int near(int from, int to) {
        if (oneOf(60)) {
            int[] odd = {Integer.MIN_VALUE, Integer.MAX_VALUE, -1, 31, 32, 33, 64, 1 << 30, below(Integer.MAX_VALUE)};
            return odd[below(odd.length)];
        }
        return oneOf(12) ? between(from - 1, to + 1) : between(from, to);
    }

    private static String answer(Supplier<Object> call) {
        try {
            return call.get().toString();
        } catch (RuntimeException e) {
            return e.getClass().getName();
        }
    }

    private void both(String name, Supplier<Object> one, Supplier<Object> other) {
        if (!same || calls.size() >= MOST_CALLS) {
            return;
        }
        String got = answer(one);
        String want = answer(other);
        calls.add(name + " -> " + want);
        if (!got.equals(want)) {
            same = false;
            calls.forEach(System.out::println);
            System.out.println("RandomTest: the last call answered " + got + ", due is " + want);
        }
    }

    private void play(boolean texts) {
        real = new CoinLadders();
        model = new Reference();
        for (int n = 0; n < 2000 && calls.size() < MOST_CALLS && same; n++) {
            if (calls.isEmpty() || oneOf(texts ? 5 : 120)) {
                parse(texts && oneOf(2) ? broken(text()) : text());
            }
            if (oneOf(2)) {
                change();
            } else {
                ask();
            }
        }
    }

    private void parse(String text) {
        for (int from = 0; from < text.length(); from += 20) {
            int[] f = new int[5];
            for (int i = 0; i < 20; i++) {
                int b = from + i < text.length() ? text.charAt(from + i) & 255 : below(256);
                f[i / 4] = f[i / 4] << 8 | b;
            }
            both("append", () -> real.append(f[0], f[1], f[2], f[3], f[4]), () -> model.append(f[0], f[1], f[2], f[3], f[4]));
        }
        int length = oneOf(20) ? near(0, text.length() + 20) : text.length();
        both("parse(" + length + ") of " + text, () -> real.parse(length), () -> model.parse(length));
    }

    private String space() {
        return oneOf(6) ? "\n" : oneOf(8) ? "  " : " ";
    }

    private String text() {
        StringBuilder text = new StringBuilder();
        int ladders = oneOf(12) ? between(0, 7) : between(1, 4);
        if (oneOf(3)) {
            text.append("tokens").append(space()).append(near(0, 3)).append(space()).append(near(0, 9))
                    .append(space()).append(near(0, 3)).append(';');
        }
        for (int i = 0; i < ladders; i++) {
            int top = oneOf(3) ? near(1, 12) : between(3, 8);
            text.append("ladder").append(space()).append(top);
            several(text, Math.max(1, Math.min(top, 12)), oneOf(30) ? 4 : between(1, 3));
            if (oneOf(2)) {
                text.append(space()).append("steps");
                several(text, oneOf(3) ? 12 : 5, oneOf(30) ? 5 : between(1, 4));
            }
            text.append(';');
            while (oneOf(3)) {
                text.append("lock").append(space()).append(near(0, i)).append(space())
                        .append(near(1, Math.max(1, top))).append(';');
            }
        }
        if (oneOf(3)) {
            text.append(" first").append(space()).append(near(0, 1)).append(oneOf(4) ? " ;" : ";");
        }
        return text.length() > 400 ? text.substring(0, 400) : text.toString();
    }

    private void several(StringBuilder text, int highest, int count) {
        List<Integer> had = new ArrayList<>();
        for (int i = 0; i < count; i++) {
            int number = near(1, highest);
            for (int tries = 0; tries < 20 && had.contains(number) && !oneOf(15); tries++) {
                number = near(1, highest);
            }
            had.add(number);
            text.append(space()).append(oneOf(20) ? "0" : "").append(number);
        }
    }

    private String broken(String text) {
        StringBuilder made = new StringBuilder(text);
        String odd = " ;0123456789abz?\n\t\u00ff{`:/L";
        String[] words = {"ladder", "steps", "lock", "tokens", "first", ";", " 0", " 12", "first 1;", "ladder 1 1;"};
        for (int n = between(1, 3); n > 0 && made.length() > 1; n--) {
            int at = below(made.length());
            switch (below(5)) {
                case 0: made.setCharAt(at, odd.charAt(below(odd.length()))); break;
                case 1: made.insert(at, odd.charAt(below(odd.length()))); break;
                case 2: made.deleteCharAt(at); break;
                case 3: made.insert(at, words[below(words.length)]); break;
                default: made.setLength(at);
            }
        }
        return made.length() > 400 ? made.substring(0, 400) : made.toString();
    }

    private int aLadder() {
        return near(0, Math.max(0, model.size(0) - 1));
    }

    private void change() {
        int ladder = aLadder();
        switch (below(16)) {
            case 0: case 1: case 2: case 3: case 4: case 5:
                stepAtAll(ladder);
                break;
            case 6: case 7:
                both("claim(" + ladder + ")", () -> real.claim(ladder), () -> model.claim(ladder));
                break;
            case 8: case 9:
                int height = near(1, 8);
                both("lock(" + ladder + ", " + height + ")", () -> real.lock(ladder, height), () -> model.lock(ladder, height));
                break;
            case 10: case 11:
                both("back()", () -> real.back(), () -> model.back());
                break;
            case 12:
                both("pass()", () -> real.pass(), () -> model.pass());
                break;
            case 13:
                int acts = oneOf(4) ? near(1, 60) : near(1, 3);
                both("play(" + acts + ")", () -> real.play(acts), () -> model.play(acts));
                break;
            case 14:
                both("undo()", () -> real.undo(), () -> model.undo());
                break;
            default:
                snapshot();
        }
    }

    private void stepAtAll(int ladder) {
        int allowed = model.allowed();
        if (allowed > 0 && !oneOf(6)) {
            int k = below(allowed);
            step(model.choice(k, 0), model.choice(k, 1), model.choice(k, 2));
        } else {
            step(ladder, near(0, 12), near(1, 4));
        }
    }

    private void step(int ladder, int height, int size) {
        both("step(" + ladder + ", " + height + ", " + size + ")",
                () -> real.step(ladder, height, size), () -> model.step(ladder, height, size));
    }

    private void snapshot() {
        int slot = near(0, 1);
        if (oneOf(2)) {
            both("saveSnapshot(" + slot + ")", () -> real.saveSnapshot(slot), () -> model.saveSnapshot(slot));
        } else {
            both("restoreSnapshot(" + slot + ")", () -> real.restoreSnapshot(slot), () -> model.restoreSnapshot(slot));
        }
    }

    private void ask() {
        int a = aLadder();
        int h = near(0, 12);
        int s = near(1, 4);
        switch (below(22)) {
            case 0: askSize(); break;
            case 1: int w1 = near(0, 5); both("ladder(" + a + ", " + w1 + ")", () -> real.ladder(a, w1), () -> model.ladder(a, w1)); break;
            case 2: int w2 = near(0, 2); both("set(" + a + ", " + w2 + ")", () -> real.set(a, w2), () -> model.set(a, w2)); break;
            case 3: askPlayer(); break;
            case 4: int w3 = near(0, 4); int k = near(0, 17); both("act(" + k + ", " + w3 + ")", () -> real.act(k, w3), () -> model.act(k, w3)); break;
            case 5: case 6: askValue(a); break;
            case 7: both("sum()", () -> real.sum(), () -> model.sum()); break;
            case 8: both("stepsOn(" + a + ")", () -> real.stepsOn(a), () -> model.stepsOn(a)); break;
            case 9: both("longest(" + a + ")", () -> real.longest(a), () -> model.longest(a)); break;
            case 10: both("positions(" + a + ")", () -> real.positions(a), () -> model.positions(a)); break;
            case 11: both("meanValue(" + a + ")", () -> real.meanValue(a), () -> model.meanValue(a)); break;
            case 12: both("isRight()", () -> real.isRight(), () -> model.isRight()); break;
            case 13: both("allowed()", () -> real.allowed(), () -> model.allowed()); break;
            case 14: case 15: askChoice(); break;
            case 16: both("best()", () -> real.best(), () -> model.best()); break;
            case 17: case 18: both("whyNotStep(" + a + ", " + h + ", " + s + ")", () -> real.whyNotStep(a, h, s), () -> model.whyNotStep(a, h, s)); break;
            case 19: both("whyNotClaim(" + a + ")", () -> real.whyNotClaim(a), () -> model.whyNotClaim(a)); break;
            case 20: both("whyNotLock(" + a + ", " + h + ")", () -> real.whyNotLock(a, h), () -> model.whyNotLock(a, h)); break;
            default: both("whyNotBack()", () -> real.whyNotBack(), () -> model.whyNotBack());
        }
    }

    private void askSize() {
        int what = near(0, 5);
        both("size(" + what + ")", () -> real.size(what), () -> model.size(what));
    }

    private void askPlayer() {
        int player = near(0, 1);
        int what = near(0, 5);
        both("player(" + player + ", " + what + ")", () -> real.player(player, what), () -> model.player(player, what));
    }

    private void askValue(int ladder) {
        int coins = 0;
        for (int n = between(0, 3); n > 0; n--) {
            coins |= 1 << between(1, oneOf(10) ? 13 : 6);
        }
        int bits = oneOf(30) ? near(0, 8191) : coins;
        both("valueOf(" + ladder + ", " + bits + ")", () -> real.valueOf(ladder, bits), () -> model.valueOf(ladder, bits));
    }

    private void askChoice() {
        int k = near(0, Math.max(0, model.allowed() - 1));
        int what = near(0, 3);
        both("choice(" + k + ", " + what + ")", () -> real.choice(k, what), () -> model.choice(k, what));
    }
}
