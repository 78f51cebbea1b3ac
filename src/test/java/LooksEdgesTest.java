/** Promises 4 to 8: each sentence of the document that names a boundary case of a look has a method here. */
public final class LooksEdgesTest {
    private static final Due due = new Due("LooksEdgesTest");
    private static final Class<IllegalArgumentException> ARGUMENT = IllegalArgumentException.class;
    private static final Class<IndexOutOfBoundsException> INDEX = IndexOutOfBoundsException.class;
    private static final int LEAST = Integer.MIN_VALUE;
    private static final int GREATEST = Integer.MAX_VALUE;

    public static void main(String[] args) {
        overOrNot();
        whoHasWon();
        actsMade();
        changesThatCanBeUndone();
        sizeOfNothing();
        onTheGround();
        claimsOfALadder();
        noSuchLadder();
        ladderOfNothing();
        setsOfHeights();
        setOfNoLadder();
        tokensLeft();
        stepsAndTheirSizes();
        passesMade();
        noSuchPlayer();
        sixteenActs();
        notSoManyActs();
        whatAnActHas();
        actOfNothing();
        due.end();
    }

    private static void overOrNot() {
        due.says("3 1 if the game is over, otherwise 0");
        due.is("without ladders", 1, () -> new CoinLadders().size(3));
        due.is("a text without ladders", 1, () -> Due.game("first 1;").size(3));
        due.is("one step is left", 0, () -> Due.game("ladder 1 1;").size(3));
        due.is("no step from the beginning", 1, () -> Due.game("ladder 2 1 2 steps 3;").size(3));
        due.is("one step on the last of six", 0, () -> Due.game("ladder 1 1 steps 2;ladder 1 1 steps 2;"
                + "ladder 1 1 steps 2;ladder 1 1 steps 2;ladder 1 1 steps 2;ladder 1 1 steps 1;").size(3));
        due.is("only the ground can be reached", 0, () -> Due.game("ladder 12 12 steps 12;").size(3));
        due.is("all is locked", 1, () -> Due.game("ladder 3 3 steps 1 2; lock 0 1; lock 0 2;").size(3));
        due.is("locked but for the ground", 0, () -> Due.game("ladder 3 3; lock 0 1; lock 0 2;").size(3));
        CoinLadders x = Due.game("ladder 1 1;");
        x.claim(0);
        due.is("the one step is not allowed by a claim", 0, () -> x.size(3));
        x.pass();
        x.step(0, 1, 1);
        due.is("no coin above the ground", 1, () -> x.size(3));
        x.back();
        due.is("a back ends the end", 0, () -> x.size(3));
        due.is("though the one step is banned", 0, () -> x.allowed());
    }

    private static void whoHasWon() {
        due.says("4 the player who has won (NONE before the game is over)");
        due.is("0 would have to act", 1, () -> new CoinLadders().size(4));
        due.is("1 would have to act", 0, () -> Due.game("first 1;").size(4));
        for (int first = 0; first < 2; first++) {
            int who = first;
            CoinLadders x = Due.game("ladder 2 2 steps 1; tokens 0 0 1; first " + first + ";");
            due.is("before", -1, () -> x.size(4));
            x.step(0, 2, 1);
            due.is("before the last step", -1, () -> x.size(4));
            x.step(0, 1, 1);
            due.is("who made the last step has won", 1 - who, () -> x.size(4));
            due.is("the other would have to act", who, () -> x.size(1));
            x.back();
            due.is("nobody has won behind a back", -1, () -> x.size(4));
        }
        CoinLadders y = Due.game("ladder 2 2 steps 1;");
        y.lock(0, 1);
        due.is("who locked the last step has won", 0, () -> y.size(4));
        y.undo();
        due.is("nobody behind undo", -1, () -> y.size(4));
    }

    private static void actsMade() {
        due.says("2 acts made");
        CoinLadders x = Due.game("ladder 12 12 steps 1; ladder 12 12 steps 1; tokens 9 9 9;");
        for (int i = 0; i < 12; i++) {
            int made = 2 * i;
            due.is("acts", made, () -> x.size(2));
            x.step(0, 12 - i, 1);
            x.step(1, 12 - i, 1);
        }
        due.is("more than are kept", 24, () -> x.size(2));
        x.back();
        due.is("a back is an act, too", 25, () -> x.size(2));
        due.fails("a wrong act", ARGUMENT, () -> x.step(0, 1, 1));
        due.is("is none", 25, () -> x.size(2));
        x.undo();
        due.is("an undone one is none", 24, () -> x.size(2));
    }

    private static void changesThatCanBeUndone() {
        due.says("5 changes that can be undone");
        CoinLadders x = Due.game("ladder 12 12 steps 1;");
        for (int i = 0; i < 12; i++) {
            int can = Math.min(i, 10);
            due.is("behind " + i, can, () -> x.size(5));
            x.step(0, 12 - i, 1);
        }
        due.is("behind 12", 10, () -> x.size(5));
        x.undo();
        due.is("behind undo", 9, () -> x.size(5));
        x.saveSnapshot(0);
        due.is("saving is no change", 9, () -> x.size(5));
        x.play(1);
        due.is("play is one", 10, () -> x.size(5));
        x.restoreSnapshot(0);
        due.is("none behind restoring", 0, () -> x.size(5));
    }

    private static void sizeOfNothing() {
        due.says("size: Throws `IllegalArgumentException` if what is out of range");
        CoinLadders x = Due.game("ladder 3 3;");
        for (int what = 0; what <= 5; what++) {
            int good = what;
            due.isTrue("size(" + good + ")", x.size(good) >= -1);
        }
        int[] wrong = {-1, 6, LEAST, GREATEST};
        for (int what : wrong) {
            due.failsAndLeaves("size(" + what + ")", ARGUMENT, x, () -> x.size(what));
            due.fails("size(" + what + ") of a new object", ARGUMENT, () -> new CoinLadders().size(what));
        }
    }

    private static void onTheGround() {
        due.says("on the ground there can be several");
        CoinLadders x = Due.game("ladder 3 3 2 1;");
        for (int i = 0; i < 3; i++) {
            int down = i;
            due.is("coins", 3, () -> x.ladder(0, 1));
            due.is("coins on the ground", down, () -> x.ladder(0, 2));
            x.step(0, i + 1, i + 1);
        }
        due.is("coins still", 3, () -> x.ladder(0, 1));
        due.is("all on the ground", 3, () -> x.ladder(0, 2));
        due.is("none above it", 0, () -> x.set(0, 0));
        due.is("the top stays", 3, () -> x.ladder(0, 0));
        due.is("no value", 0, () -> x.ladder(0, 3));
        x.back();
        due.is("one comes back", 2, () -> x.ladder(0, 2));
        CoinLadders y = Due.game("ladder 5 5 1;");
        y.step(0, 5, 2);
        due.is("one that has gone down, but not to the ground", 0, () -> y.ladder(0, 2));
        y.step(0, 1, 1);
        y.step(0, 3, 2);
        due.is("one on the ground, one where it was", 1, () -> y.ladder(0, 2));
    }

    private static void claimsOfALadder() {
        due.says("4 the player who has claimed it (NONE if nobody has), 5 how many acts more the claim lasts (0 without one)");
        for (int first = 0; first < 2; first++) {
            int who = first;
            CoinLadders x = Due.game("ladder 12 12; ladder 12 12; tokens 1 0 0; first " + first + ";");
            due.is("nobody", -1, () -> x.ladder(0, 4));
            due.is("not at all", 0, () -> x.ladder(0, 5));
            x.claim(0);
            for (int i = 0; i < 3; i++) {
                int more = 3 - i;
                due.is("claimed by", who, () -> x.ladder(0, 4));
                due.is("lasts", more, () -> x.ladder(0, 5));
                due.is("the other ladder is free", -1, () -> x.ladder(1, 4));
                due.is("and has no claim", 0, () -> x.ladder(1, 5));
                x.step(1, 12 - i, 1);
            }
            due.is("nobody again", -1, () -> x.ladder(0, 4));
            due.is("not any more", 0, () -> x.ladder(0, 5));
            x.step(1, 9, 1);
            due.is("and does not begin anew", 0, () -> x.ladder(0, 5));
            due.is("nobody still", -1, () -> x.ladder(0, 4));
        }
    }

    private static void noSuchLadder() {
        due.says("ladder: Throws `IndexOutOfBoundsException` if there is no such ladder (checked first)");
        CoinLadders x = Due.game("ladder 3 3;ladder 3 3;");
        int[] wrong = {-1, 2, 5, 6, LEAST, GREATEST};
        for (int ladder : wrong) {
            due.fails("ladder(" + ladder + ", 0)", INDEX, () -> x.ladder(ladder, 0));
            due.fails("ladder(" + ladder + ", 6)", INDEX, () -> x.ladder(ladder, 6));
            due.fails("ladder(" + ladder + ", -1)", INDEX, () -> x.ladder(ladder, -1));
        }
        due.is("the last one", 3, () -> x.ladder(1, 0));
        due.fails("a new object's", INDEX, () -> new CoinLadders().ladder(0, 0));
        CoinLadders y = Due.game("ladder 1 1;ladder 1 1;ladder 1 1;ladder 1 1;ladder 1 1;ladder 1 1;");
        due.is("the sixth", 1, () -> y.ladder(5, 0));
        due.fails("no seventh", INDEX, () -> y.ladder(6, 0));
    }

    private static void ladderOfNothing() {
        due.says("ladder: Throws `IllegalArgumentException` if what is out of range");
        CoinLadders x = Due.game("ladder 3 3;");
        int[] wrong = {-1, 6, LEAST, GREATEST};
        for (int what : wrong) {
            due.failsAndLeaves("ladder(0, " + what + ")", ARGUMENT, x, () -> x.ladder(0, what));
        }
        due.is("the last what", 0, () -> x.ladder(0, 5));
    }

    private static void setsOfHeights() {
        due.says("Returns these as bits: bit k for k.");
        CoinLadders x = Due.game("ladder 12 12 1 6 steps 12 1; ladder 1 1; lock 0 12; lock 0 1; lock 1 1;");
        due.is("coins from 1 to 12", 1 << 12 | 1 << 1 | 1 << 6, () -> x.set(0, 0));
        due.is("locks from 1 to 12", 1 << 12 | 1 << 1, () -> x.set(0, 1));
        due.is("sizes from 1 to 12", 1 << 12 | 1 << 1, () -> x.set(0, 2));
        due.is("the lowest coin", 2, () -> x.set(1, 0));
        due.is("the lowest lock", 2, () -> x.set(1, 1));
        x.step(0, 12, 12);
        due.is("no bit 0 for the ground", 1 << 1 | 1 << 6, () -> x.set(0, 0));
        x.step(0, 1, 1);
        x.step(1, 1, 1);
        due.is("no bits", 0, () -> x.set(1, 0));
        due.is("the locks stay", 2, () -> x.set(1, 1));
        due.is("no locks", 0, () -> Due.game("ladder 3 3;").set(0, 1));
    }

    private static void setOfNoLadder() {
        due.says("set: Throws `IndexOutOfBoundsException` if there is no such ladder (checked first)");
        CoinLadders x = Due.game("ladder 3 3;");
        int[] noLadder = {-1, 1, 5, 6, LEAST, GREATEST};
        for (int ladder : noLadder) {
            due.fails("set(" + ladder + ", 0)", INDEX, () -> x.set(ladder, 0));
            due.fails("set(" + ladder + ", 3)", INDEX, () -> x.set(ladder, 3));
            due.fails("set(" + ladder + ", -1)", INDEX, () -> x.set(ladder, -1));
        }
        due.says("set: Throws `IllegalArgumentException` if what is out of range");
        int[] wrong = {-1, 3, LEAST, GREATEST};
        for (int what : wrong) {
            due.failsAndLeaves("set(0, " + what + ")", ARGUMENT, x, () -> x.set(0, what));
        }
        due.is("the last what", 14, () -> x.set(0, 2));
    }

    private static void tokensLeft() {
        due.says("0 claim tokens, 1 lock tokens, 2 back tokens that are left");
        CoinLadders x = Due.game("ladder 12 12; ladder 5 5; tokens 9 1 0;");
        for (int player = 0; player < 2; player++) {
            int who = player;
            due.is("claims of " + who, 9, () -> x.player(who, 0));
            due.is("locks of " + who, 1, () -> x.player(who, 1));
            due.is("backs of " + who, 0, () -> x.player(who, 2));
        }
        x.claim(0);
        due.is("one less", 8, () -> x.player(0, 0));
        due.is("not of the other", 9, () -> x.player(1, 0));
        x.lock(0, 1);
        due.is("the last one is gone", 0, () -> x.player(1, 1));
        due.is("not the other's", 1, () -> x.player(0, 1));
        due.fails("a refused claim", ARGUMENT, () -> x.claim(0));
        due.is("costs nothing", 8, () -> x.player(0, 0));
    }

    private static void stepsAndTheirSizes() {
        due.says("3 steps made (also those taken back), 4 the sum of the sizes of these steps");
        CoinLadders x = Due.game("ladder 12 12 11 10 steps 12 1 5; tokens 0 0 9;");
        due.is("none", 0, () -> x.player(0, 3));
        due.is("no sizes", 0, () -> x.player(0, 4));
        x.step(0, 12, 12);
        x.back();
        due.is("one was taken back", 1, () -> x.player(0, 3));
        due.is("and its size", 12, () -> x.player(0, 4));
        due.is("a back is no step", 0, () -> x.player(1, 3));
        due.is("and has no size", 0, () -> x.player(1, 4));
        x.step(0, 12, 5);
        due.is("two", 2, () -> x.player(0, 3));
        due.is("12 and 5", 17, () -> x.player(0, 4));
        x.step(0, 11, 5);
        due.is("one of 1", 1, () -> x.player(1, 3));
        due.is("its size", 5, () -> x.player(1, 4));
        due.is("not 0's", 17, () -> x.player(0, 4));
        x.undo();
        due.is("an undone step does not count", 0, () -> x.player(1, 3));
        due.is("nor does its size", 0, () -> x.player(1, 4));
        CoinLadders y = Due.game("ladder 12 12 11 10 steps 1; ladder 12 12 11 10 steps 1;");
        y.play(60);
        y.play(60);
        due.is("steps by play", 33, () -> y.player(0, 3));
        due.is("their sizes", 33, () -> y.player(1, 4));
    }

    private static void passesMade() {
        due.says("5 passes");
        CoinLadders x = Due.game("ladder 2 2 steps 1; tokens 1 0 0;");
        x.claim(0);
        due.is("none", 0, () -> x.player(1, 5));
        x.pass();
        due.is("one", 1, () -> x.player(1, 5));
        x.step(0, 2, 1);
        due.is("not of 0", 0, () -> x.player(0, 5));
        due.is("a pass is no step", 0, () -> x.player(1, 3));
    }

    private static void noSuchPlayer() {
        due.says("player: Throws `IndexOutOfBoundsException` if there is no such player (checked first)");
        CoinLadders x = Due.game("ladder 3 3;");
        int[] nobody = {-1, 2, LEAST, GREATEST};
        for (int player : nobody) {
            due.fails("player(" + player + ", 0)", INDEX, () -> x.player(player, 0));
            due.fails("player(" + player + ", 6)", INDEX, () -> x.player(player, 6));
            due.fails("player(" + player + ", -1)", INDEX, () -> x.player(player, -1));
        }
        due.says("player: Throws `IllegalArgumentException` if what is out of range");
        int[] wrong = {-1, 6, LEAST, GREATEST};
        for (int what : wrong) {
            due.failsAndLeaves("player(0, " + what + ")", ARGUMENT, x, () -> x.player(0, what));
            due.fails("player(1, " + what + ")", ARGUMENT, () -> x.player(1, what));
        }
        due.is("the last what", 0, () -> x.player(1, 5));
    }

    private static void sixteenActs() {
        due.says("0 for the latest act; the latest 16 acts are kept");
        CoinLadders x = Due.game("ladder 12 12 11 10 steps 1; ladder 12 12 steps 1;");
        // from ladder 0 the coin at 10, then those at 11 and 12; the sum of ladder, height and made acts tells each act
        int made = 0;
        for (int coin = 10; coin <= 12; coin++) {
            for (int height = coin; height > coin - 10; height--) {
                x.step(0, height, 1);
                made++;
                int latest = height;
                due.is("the latest of " + made, latest, () -> x.act(0, 3));
                due.is("the oldest of " + made, oldest(made), () -> x.act(15, 3));
                due.is("none older of " + made, -1, () -> x.act(16, 3));
                due.is("the player of the latest", 1 - made % 2, () -> x.act(0, 1));
            }
        }
        due.is("acts made", 30, () -> x.size(2));
        for (int i = 0; i < 16; i++) {
            int k = i;
            due.is("act " + k, heightOfAct(30 - k), () -> x.act(k, 3));
            due.is("its player", 1 - (30 - k) % 2, () -> x.act(k, 1));
        }
    }

    /** The height of the n-th act of sixteenActs. */
    private static int heightOfAct(int n) {
        return 10 + (n - 1) / 10 - (n - 1) % 10;
    }

    private static int oldest(int made) {
        return made < 16 ? -1 : heightOfAct(made - 15);
    }

    private static void notSoManyActs() {
        due.says("NONE if not so many acts are kept, or k is negative");
        CoinLadders x = Due.game("ladder 12 12;");
        due.is("no act yet", -1, () -> x.act(0, 0));
        x.step(0, 12, 1);
        int[] none = {1, 2, 15, 16, 17, 32, GREATEST, -1, -2, -16, LEAST};
        for (int k : none) {
            for (int i = 0; i < 5; i++) {
                int what = i;
                due.is("act(" + k + ", " + what + ")", -1, () -> x.act(k, what));
            }
        }
        x.step(0, 11, 1);
        due.is("the first of two", 12, () -> x.act(1, 3));
        due.is("none before it", -1, () -> x.act(2, 3));
        x.undo();
        due.is("undone", -1, () -> x.act(1, 3));
        x.undo();
        due.is("all undone", -1, () -> x.act(0, 3));
        due.is("a new object", -1, () -> new CoinLadders().act(0, 4));
    }

    private static void whatAnActHas() {
        due.says("2 its ladder (of a back that of the step; NONE for a pass), 3 its height (of a step and of a back the height "
                + "from which the coin had gone down, of a lock the locked one; NONE otherwise), 4 its size (of a step and of a "
                + "back; NONE otherwise)");
        CoinLadders x = Due.game("ladder 3 1; ladder 12 12 steps 12; tokens 9 9 9;");
        x.step(1, 12, 12);
        row("a step", x, 0, 0, 1, 12, 12);
        x.back();
        row("a back", x, 3, 1, 1, 12, 12);
        x.lock(1, 11);
        row("a lock", x, 2, 0, 1, 11, -1);
        x.claim(1);
        row("a claim", x, 1, 1, 1, -1, -1);
        x.claim(0);
        x.step(1, 12, 12);
        row("the step again", x, 0, 1, 1, 12, 12);
        x.step(0, 1, 1);
        row("a step of ladder 0", x, 0, 0, 0, 1, 1);
        x.back();
        row("a back behind the end", x, 3, 1, 0, 1, 1);
        x.pass();
        row("a pass", x, 4, 0, -1, -1, -1);
    }

    private static void row(String name, CoinLadders x, int kind, int player, int ladder, int height, int size) {
        due.is(name + ": kind", kind, () -> x.act(0, 0));
        due.is(name + ": player", player, () -> x.act(0, 1));
        due.is(name + ": ladder", ladder, () -> x.act(0, 2));
        due.is(name + ": height", height, () -> x.act(0, 3));
        due.is(name + ": size", size, () -> x.act(0, 4));
    }

    private static void actOfNothing() {
        due.says("act: Throws `IllegalArgumentException` if what is out of range");
        CoinLadders x = Due.game("ladder 12 12;");
        x.step(0, 12, 1);
        int[] wrong = {-1, 5, LEAST, GREATEST};
        for (int what : wrong) {
            due.failsAndLeaves("act(0, " + what + ")", ARGUMENT, x, () -> x.act(0, what));
            due.fails("act(1, " + what + ")", ARGUMENT, () -> x.act(1, what));
            due.fails("act(-1, " + what + ")", ARGUMENT, () -> x.act(-1, what));
        }
        due.is("the last what", 1, () -> x.act(0, 4));
    }
}
