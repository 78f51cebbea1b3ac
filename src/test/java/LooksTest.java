/** Promises 4 to 8: size, ladder, set, player and act. */
public final class LooksTest {
    private static final Due due = new Due("LooksTest");
    private static final int[] NO_WHAT = {-1, 6, 7, 99, Integer.MIN_VALUE, Integer.MAX_VALUE};

    public static void main(String[] args) {
        size();
        sizeOfAnEndedGame();
        ladder();
        set();
        player();
        act();
        onlySixteenActs();
        due.end();
    }

    private static void size() {
        CoinLadders x = Due.game("ladder 12 12; ladder 2 1; first 1; tokens 1 1 1;");
        due.is("ladders", 2, () -> x.size(0));
        due.is("player", 1, () -> x.size(1));
        due.is("acts", 0, () -> x.size(2));
        due.is("over", 0, () -> x.size(3));
        due.is("winner", -1, () -> x.size(4));
        due.is("changes", 0, () -> x.size(5));
        x.step(0, 12, 1);
        x.lock(0, 3);
        due.is("player after two acts", 1, () -> x.size(1));
        due.is("acts after two", 2, () -> x.size(2));
        due.is("changes after two", 2, () -> x.size(5));
        x.play(3);
        due.is("acts after play", 5, () -> x.size(2));
        due.is("changes after play", 3, () -> x.size(5));
        for (int what : NO_WHAT) {
            due.fails("size(" + what + ")", IllegalArgumentException.class, () -> x.size(what));
        }
    }

    private static void sizeOfAnEndedGame() {
        CoinLadders x = Due.game("ladder 2 2;");
        x.step(0, 2, 2);
        due.is("over", 1, () -> x.size(3));
        due.is("the player who cannot act", 1, () -> x.size(1));
        due.is("the winner", 0, () -> x.size(4));
        CoinLadders y = Due.game("ladder 3 3 2 1 steps 4; first 1;");
        due.is("over from the beginning", 1, () -> y.size(3));
        due.is("won from the beginning", 0, () -> y.size(4));
        CoinLadders z = Due.game("ladder 2 2 steps 1;");
        z.lock(0, 1);
        due.is("over by a lock", 1, () -> z.size(3));
        due.is("won by a lock", 0, () -> z.size(4));
        CoinLadders w = Due.game("ladder 1 1;");
        w.claim(0);
        due.is("claims end no game", 0, () -> w.size(3));
        due.is("nobody has won", -1, () -> w.size(4));
    }

    private static void ladder() {
        CoinLadders x = Due.game("ladder 7 1 5; ladder 12 6; tokens 3 1 1;");
        due.is("top", 7, () -> x.ladder(0, 0));
        due.is("coins", 2, () -> x.ladder(0, 1));
        due.is("coins on the ground", 0, () -> x.ladder(0, 2));
        due.is("value of one coin at 6", 2, () -> x.ladder(1, 3));
        due.is("claimer", -1, () -> x.ladder(0, 4));
        due.is("claim", 0, () -> x.ladder(0, 5));
        x.step(0, 1, 1);
        due.is("coins still", 2, () -> x.ladder(0, 1));
        due.is("one on the ground", 1, () -> x.ladder(0, 2));
        due.is("value of one coin at 5", 1, () -> x.ladder(0, 3));
        x.claim(1);
        due.is("claimer then", 1, () -> x.ladder(1, 4));
        due.is("claim then", 3, () -> x.ladder(1, 5));
        due.is("the other is free", -1, () -> x.ladder(0, 4));
        due.is("no claim there", 0, () -> x.ladder(0, 5));
        x.claim(0);
        due.is("two left", 2, () -> x.ladder(1, 5));
        due.is("three left", 3, () -> x.ladder(0, 5));
        due.is("claimer of the first", 0, () -> x.ladder(0, 4));
        x.step(1, 6, 1);
        due.is("one left", 1, () -> x.ladder(1, 5));
        due.is("claimed by 1 still", 1, () -> x.ladder(1, 4));
        x.step(0, 5, 3);
        due.is("none left", 0, () -> x.ladder(1, 5));
        due.is("nobody has it", -1, () -> x.ladder(1, 4));
        due.is("the other lasts", 1, () -> x.ladder(0, 5));
        x.step(1, 5, 1);
        x.step(0, 2, 2);
        due.is("two on the ground", 2, () -> x.ladder(0, 2));
        due.is("value without steps", 0, () -> x.ladder(0, 3));
        int[] no = {-1, 2, 6, Integer.MIN_VALUE, Integer.MAX_VALUE};
        for (int ladder : no) {
            due.fails("ladder(" + ladder + ", 0)", IndexOutOfBoundsException.class, () -> x.ladder(ladder, 0));
            due.fails("ladder(" + ladder + ", 9)", IndexOutOfBoundsException.class, () -> x.ladder(ladder, 9));
        }
        for (int what : NO_WHAT) {
            due.fails("ladder(0, " + what + ")", IllegalArgumentException.class, () -> x.ladder(0, what));
        }
    }

    private static void set() {
        CoinLadders x = Due.game("ladder 12 1 12 3 steps 12 1; ladder 4 4; lock 0 12; lock 0 2;");
        due.is("coins", 1 << 12 | 1 << 3 | 1 << 1, () -> x.set(0, 0));
        due.is("locks", 1 << 12 | 1 << 2, () -> x.set(0, 1));
        due.is("sizes", 1 << 12 | 1 << 1, () -> x.set(0, 2));
        due.is("usual sizes", 14, () -> x.set(1, 2));
        due.is("no locks", 0, () -> x.set(1, 1));
        x.step(0, 12, 12);
        due.is("no bit for the ground", 1 << 3 | 1 << 1, () -> x.set(0, 0));
        x.step(0, 1, 1);
        x.step(1, 4, 3);
        due.is("behind steps", 1 << 3, () -> x.set(0, 0));
        due.is("behind a step", 1 << 1, () -> x.set(1, 0));
        x.lock(1, 4);
        due.is("locked", 1 << 4, () -> x.set(1, 1));
        due.fails("set(-1, 0)", IndexOutOfBoundsException.class, () -> x.set(-1, 0));
        due.fails("set(2, 0)", IndexOutOfBoundsException.class, () -> x.set(2, 0));
        due.fails("set(2, 3)", IndexOutOfBoundsException.class, () -> x.set(2, 3));
        due.fails("set(0, 3)", IllegalArgumentException.class, () -> x.set(0, 3));
        due.fails("set(0, -1)", IllegalArgumentException.class, () -> x.set(0, -1));
    }

    private static void player() {
        CoinLadders x = Due.game("ladder 12 12; ladder 3 3; tokens 2 3 4;");
        for (int i = 0; i < 6; i++) {
            int who = i % 2;
            int kind = i / 2;
            due.is("tokens of kind " + kind, 2 + kind, () -> x.player(who, kind));
        }
        x.step(0, 12, 3);
        x.back();
        due.is("back token of 1", 3, () -> x.player(1, 2));
        due.is("back token of 0", 4, () -> x.player(0, 2));
        due.is("a step taken back counts", 1, () -> x.player(0, 3));
        due.is("its size counts", 3, () -> x.player(0, 4));
        due.is("a back is no step", 0, () -> x.player(1, 3));
        x.step(0, 12, 2);
        due.is("steps", 2, () -> x.player(0, 3));
        due.is("sizes", 5, () -> x.player(0, 4));
        x.claim(1);
        due.is("claims of 1", 1, () -> x.player(1, 0));
        due.is("claims of 0", 2, () -> x.player(0, 0));
        x.lock(0, 1);
        due.is("locks of 0", 2, () -> x.player(0, 1));
        due.is("locks of 1", 3, () -> x.player(1, 1));
        due.is("passes", 0, () -> x.player(0, 5));
        int[] no = {-1, 2, Integer.MIN_VALUE, Integer.MAX_VALUE};
        for (int who : no) {
            due.fails("player(" + who + ", 0)", IndexOutOfBoundsException.class, () -> x.player(who, 0));
            due.fails("player(" + who + ", 6)", IndexOutOfBoundsException.class, () -> x.player(who, 6));
        }
        for (int what : NO_WHAT) {
            due.fails("player(1, " + what + ")", IllegalArgumentException.class, () -> x.player(1, what));
        }
        CoinLadders y = Due.game("ladder 1 1;");
        y.claim(0);
        y.pass();
        due.is("a pass of 1", 1, () -> y.player(1, 5));
        due.is("no pass of 0", 0, () -> y.player(0, 5));
    }

    private static void act() {
        CoinLadders x = Due.game("ladder 12 12; ladder 1 1; first 1;");
        x.step(0, 12, 3);
        row("step", x, 0, 0, 1, 0, 12, 3);
        x.back();
        row("back", x, 0, 3, 0, 0, 12, 3);
        row("the step behind it", x, 1, 0, 1, 0, 12, 3);
        x.lock(0, 7);
        row("lock", x, 0, 2, 1, 0, 7, -1);
        x.claim(1);
        row("claim", x, 0, 1, 0, 1, -1, -1);
        row("the lock behind it", x, 1, 2, 1, 0, 7, -1);
        row("the oldest", x, 3, 0, 1, 0, 12, 3);
        row("none so old", x, 4, -1, -1, -1, -1, -1);
        row("negative", x, -1, -1, -1, -1, -1, -1);
        row("least", x, Integer.MIN_VALUE, -1, -1, -1, -1, -1);
        row("greatest", x, Integer.MAX_VALUE, -1, -1, -1, -1, -1);
        due.fails("act(0, -1)", IllegalArgumentException.class, () -> x.act(0, -1));
        due.fails("act(0, 5)", IllegalArgumentException.class, () -> x.act(0, 5));
        due.fails("act(9, 5)", IllegalArgumentException.class, () -> x.act(9, 5));
        due.fails("act(-1, -1)", IllegalArgumentException.class, () -> x.act(-1, -1));
        CoinLadders y = Due.game("ladder 1 1;");
        y.claim(0);
        y.pass();
        row("pass", y, 0, 4, 1, -1, -1, -1);
    }

    private static void onlySixteenActs() {
        CoinLadders x = Due.game("ladder 12 12 steps 1; ladder 12 12 steps 1;");
        for (int height = 12; height > 0; height--) {
            x.step(0, height, 1);
            int past = 12 - height;
            due.is("the first of " + (past + 1), 12, () -> x.act(past, 3));
        }
        for (int height = 12; height > 6; height--) {
            x.step(1, height, 1);
        }
        due.is("acts made", 18, () -> x.size(2));
        row("the latest", x, 0, 0, 1, 1, 7, 1);
        row("the sixteenth", x, 15, 0, 0, 0, 10, 1);
        row("the seventeenth", x, 16, -1, -1, -1, -1, -1);
    }

    private static void row(String name, CoinLadders x, int k, int kind, int player, int ladder, int height, int size) {
        due.is(name + ": kind", kind, () -> x.act(k, 0));
        due.is(name + ": player", player, () -> x.act(k, 1));
        due.is(name + ": ladder", ladder, () -> x.act(k, 2));
        due.is(name + ": height", height, () -> x.act(k, 3));
        due.is(name + ": size", size, () -> x.act(k, 4));
    }
}
