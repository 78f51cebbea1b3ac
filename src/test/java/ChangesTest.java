/** Promises 23 to 28: step, claim, lock, back, pass and play. */
public final class ChangesTest {
    private static final Due due = new Due("ChangesTest");
    private static final Class<IllegalArgumentException> ARGUMENT = IllegalArgumentException.class;
    private static final Class<IllegalStateException> STATE = IllegalStateException.class;

    public static void main(String[] args) {
        step();
        wrongSteps();
        claim();
        lock();
        back();
        backOfTheLastStep();
        backToTheGround();
        pass();
        play();
        playPasses();
        wrongPlay();
        due.end();
    }

    private static void step() {
        CoinLadders x = Due.game("ladder 12 12; ladder 12 7; ladder 3 1 2;");
        // 12: 0, 7: 3, {1, 2}: 0
        due.is("the sum behind 12 to 11", 0, () -> x.step(0, 12, 1));
        due.is("the coin lies at 11", 1 << 11, () -> x.set(0, 0));
        due.is("the other has to act", 1, () -> x.size(1));
        due.is("one act", 1, () -> x.size(2));
        due.is("one change", 1, () -> x.size(5));
        due.is("the sum behind 7 to 4", 3, () -> x.step(1, 7, 3));
        due.is("a step of 0", 1, () -> x.player(0, 3));
        due.is("the size of 1's step", 3, () -> x.player(1, 4));
        due.is("to the ground", 3 ^ 1, () -> x.step(2, 2, 2));
        due.is("one at 1", 2, () -> x.set(2, 0));
        due.is("one on the ground", 1, () -> x.ladder(2, 2));
        due.is("again to the ground", 3, () -> x.step(2, 1, 1));
        due.is("two on the ground", 2, () -> x.ladder(2, 2));
    }

    private static void wrongSteps() {
        CoinLadders x = Due.game("ladder 9 9 8 2; ladder 5 5; lock 0 6; tokens 1 1 1;");
        due.fails("no ladder", ARGUMENT, () -> x.step(2, 9, 1));
        due.fails("ladder -1", ARGUMENT, () -> x.step(-1, 9, 1));
        due.fails("no coin", ARGUMENT, () -> x.step(0, 7, 1));
        due.fails("no size", ARGUMENT, () -> x.step(0, 9, 4));
        due.fails("below the ground", ARGUMENT, () -> x.step(0, 2, 3));
        due.fails("locked", ARGUMENT, () -> x.step(0, 9, 3));
        due.fails("a coin", ARGUMENT, () -> x.step(0, 9, 1));
        due.fails("least", ARGUMENT, () -> x.step(0, Integer.MIN_VALUE, Integer.MIN_VALUE));
        due.fails("greatest", ARGUMENT, () -> x.step(0, 9, Integer.MAX_VALUE));
        nothingChanged("wrong steps", x, 0);
        x.claim(0);
        due.fails("claimed", ARGUMENT, () -> x.step(0, 9, 2));
        x.step(1, 5, 1);
        x.back();
        due.fails("banned", ARGUMENT, () -> x.step(1, 5, 1));
        nothingChanged("claimed and banned", x, 3);
        CoinLadders y = new CoinLadders();
        due.fails("over", ARGUMENT, () -> y.step(0, 1, 1));
        nothingChanged("over", y, 0);
    }

    private static void claim() {
        CoinLadders x = Due.game("ladder 9 9; ladder 9 9; tokens 2 1 1;");
        due.is("tokens left", 1, () -> x.claim(1));
        due.is("claimer", 0, () -> x.ladder(1, 4));
        due.is("how long", 3, () -> x.ladder(1, 5));
        due.is("the other has to act", 1, () -> x.size(1));
        due.fails("claimed", ARGUMENT, () -> x.claim(1));
        due.fails("no ladder", ARGUMENT, () -> x.claim(2));
        due.fails("ladder -1", ARGUMENT, () -> x.claim(-1));
        nothingChanged("wrong claims", x, 1);
        due.is("tokens left of the other", 1, () -> x.claim(0));
        due.is("the first claim is shorter", 2, () -> x.ladder(1, 5));
        x.step(1, 9, 1);
        x.lock(0, 1);
        due.is("the first claim has ended", -1, () -> x.ladder(1, 4));
        due.is("no token is left", 0, () -> x.claim(1));
        x.step(0, 9, 1);
        due.fails("no token", ARGUMENT, () -> x.claim(0));
        nothingChanged("no token", x, 6);
        due.fails("over", ARGUMENT, () -> new CoinLadders().claim(0));
    }

    private static void lock() {
        CoinLadders x = Due.game("ladder 12 6; ladder 9 9 3; tokens 1 1 1;");
        due.is("the value of 6 then", 1, () -> x.lock(0, 4));
        due.is("locked", 16, () -> x.set(0, 1));
        due.is("the other has to act", 1, () -> x.size(1));
        due.is("no token is left", 0, () -> x.player(0, 1));
        due.fails("locked already", ARGUMENT, () -> x.lock(0, 4));
        due.fails("a coin", ARGUMENT, () -> x.lock(1, 3));
        due.fails("no height", ARGUMENT, () -> x.lock(1, 10));
        due.fails("the ground", ARGUMENT, () -> x.lock(1, 0));
        due.fails("no ladder", ARGUMENT, () -> x.lock(2, 1));
        due.fails("least", ARGUMENT, () -> x.lock(-1, Integer.MIN_VALUE));
        nothingChanged("wrong locks", x, 1);
        x.step(1, 3, 2);
        due.fails("no token", ARGUMENT, () -> x.lock(1, 8));
        nothingChanged("no token", x, 2);
        due.fails("over", ARGUMENT, () -> new CoinLadders().lock(0, 1));
        CoinLadders y = Due.game("ladder 2 2 steps 1; ladder 3 1;");
        due.is("no step is left there", 0, () -> y.lock(0, 1));
        due.is("the sum", 1, () -> y.sum());
    }

    private static void back() {
        CoinLadders x = Due.game("ladder 12 11; ladder 9 9; tokens 1 1 1;");
        due.fails("no act", STATE, () -> x.back());
        nothingChanged("no act", x, 0);
        // 11: 3, 9: 1
        x.step(0, 11, 2);
        due.is("the sum as before", 2, () -> x.back());
        due.is("the coin lies at 11 again", 1 << 11, () -> x.set(0, 0));
        due.is("who stepped has to act", 0, () -> x.size(1));
        due.is("two acts", 2, () -> x.size(2));
        due.is("a back token is gone", 0, () -> x.player(1, 2));
        due.is("the step stays counted", 1, () -> x.player(0, 3));
        due.is("the same step is banned", 9, () -> x.whyNotStep(0, 11, 2));
        due.fails("a back", STATE, () -> x.back());
        nothingChanged("a back", x, 2);
        x.step(0, 11, 1);
        due.fails("no token", STATE, () -> x.back());
        nothingChanged("no token", x, 3);
        x.step(0, 10, 2);
        due.is("0 has one", 1 ^ 2, () -> x.back());
        due.is("at 10 again", 1 << 10, () -> x.set(0, 0));
    }

    private static void backOfTheLastStep() {
        CoinLadders x = Due.game("ladder 2 2;");
        x.step(0, 2, 2);
        due.is("over", 1, () -> x.size(3));
        due.is("back behind the end", 2, () -> x.back());
        due.is("no longer over", 0, () -> x.size(3));
        due.is("nobody has won", -1, () -> x.size(4));
        CoinLadders y = Due.game("ladder 9 9; ladder 9 9; tokens 9 9 9;");
        y.claim(1);
        y.step(0, 9, 1);
        y.back();
        due.is("claims get shorter by backs", 1, () -> y.ladder(1, 5));
        CoinLadders z = Due.game("ladder 9 9 5; lock 0 9;");
        z.step(0, 9, 1);
        z.back();
        due.is("back to a locked height", 1 << 9 | 1 << 5, () -> z.set(0, 0));
    }

    private static void backToTheGround() {
        CoinLadders x = Due.game("ladder 9 1 2; tokens 1 1 3;");
        x.step(0, 1, 1);
        x.step(0, 2, 2);
        due.is("both on the ground", 2, () -> x.ladder(0, 2));
        x.back();
        due.is("one comes back from the ground", 4, () -> x.set(0, 0));
        due.is("one on the ground", 1, () -> x.ladder(0, 2));
    }

    private static void pass() {
        CoinLadders x = Due.game("ladder 1 1; ladder 2 2; tokens 2 1 1;");
        due.fails("steps are allowed", STATE, () -> x.pass());
        x.claim(0);
        due.fails("one ladder is free", STATE, () -> x.pass());
        nothingChanged("no pass", x, 1);
        x.step(1, 2, 2);
        due.fails("the own claim", STATE, () -> x.pass());
        x.lock(1, 1);
        due.is("who has to act then", 0, () -> x.pass());
        due.is("passes", 1, () -> x.player(1, 5));
        due.is("acts", 4, () -> x.size(2));
        due.is("the claim has ended", -1, () -> x.ladder(0, 4));
        due.fails("over", STATE, () -> new CoinLadders().pass());
        CoinLadders y = Due.game("ladder 1 1; first 1;");
        y.step(0, 1, 1);
        due.fails("over by a step", STATE, () -> y.pass());
        y.back();
        due.is("because of the ban", 0, () -> y.pass());
        due.is("the ban is gone", 0, () -> y.whyNotStep(0, 1, 1));
    }

    private static void play() {
        CoinLadders x = Due.game("ladder 12 12; ladder 12 8; ladder 12 7;");
        due.is("one act", 1, () -> x.play(1));
        due.is("the best one: 12 to 11", 1 << 11, () -> x.set(0, 0));
        due.is("its size", 1, () -> x.act(0, 4));
        due.is("a second act", 1, () -> x.play(1));
        due.is("the first one without a best: 11 to 10", 1 << 10, () -> x.set(0, 0));
        due.is("two changes", 2, () -> x.size(5));
        due.is("two acts", 2, () -> x.play(2));
        due.is("three changes", 3, () -> x.size(5));
        due.is("four acts", 4, () -> x.size(2));
        due.is("undone at once", 2, () -> x.undo());
        due.is("two acts again", 2, () -> x.size(2));
        x.play(60);
        due.is("over", 1, () -> x.size(3));
        due.is("0 had the first sum of 0", 0, () -> x.size(4));
        due.is("no act when over", 0, () -> x.play(60));
        due.is("but a change", 4, () -> x.size(5));
        CoinLadders y = Due.game("ladder 12 12 11 10 steps 1; ladder 12 12 11 10 steps 1;");
        due.is("60 acts", 60, () -> y.play(60));
        due.is("not over", 0, () -> y.size(3));
        due.is("and 6 to the end", 6, () -> y.play(60));
        due.is("steps of each", 33, () -> y.player(1, 3));
        due.is("0 has to act and has lost", 1, () -> y.size(4));
    }

    private static void playPasses() {
        CoinLadders x = Due.game("ladder 1 1; ladder 2 2 steps 2; tokens 2 1 1;");
        x.claim(0);
        x.claim(1);
        due.is("one act", 1, () -> x.play(1));
        due.is("an own ladder", 0, () -> x.act(0, 2));
        due.is("another act", 1, () -> x.play(1));
        due.is("the other's own", 1, () -> x.act(0, 2));
        CoinLadders y = Due.game("ladder 2 2 steps 1;");
        y.claim(0);
        due.is("to the end", 4, () -> y.play(60));
        due.is("the first was a pass", 4, () -> y.act(3, 0));
        due.is("of 1", 1, () -> y.act(3, 1));
        due.is("then a step", 0, () -> y.act(2, 0));
        due.is("then a pass", 4, () -> y.act(1, 0));
        due.is("two passes", 2, () -> y.player(1, 5));
        due.is("1 has lost", 0, () -> y.size(4));
    }

    private static void wrongPlay() {
        CoinLadders x = Due.game("ladder 12 12;");
        int[] no = {0, -1, 61, Integer.MIN_VALUE, Integer.MAX_VALUE};
        for (int acts : no) {
            due.fails("play(" + acts + ")", ARGUMENT, () -> x.play(acts));
        }
        nothingChanged("wrong play", x, 0);
        due.fails("play(0) when over", ARGUMENT, () -> new CoinLadders().play(0));
    }

    private static void nothingChanged(String name, CoinLadders x, int changes) {
        due.is(name + ": acts", changes, () -> x.size(2));
        due.is(name + ": changes", changes, () -> x.size(5));
    }
}
