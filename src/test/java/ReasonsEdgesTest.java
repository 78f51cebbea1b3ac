/** Promises 16 to 22: each sentence of the document that names a boundary case of steps and reasons has a method here. */
public final class ReasonsEdgesTest {
    private static final Due due = new Due("ReasonsEdgesTest");
    private static final Class<IllegalArgumentException> ARGUMENT = IllegalArgumentException.class;
    private static final Class<IndexOutOfBoundsException> INDEX = IndexOutOfBoundsException.class;
    private static final int LEAST = Integer.MIN_VALUE;
    private static final int GREATEST = Integer.MAX_VALUE;
    /** Ladder 0 has a coin at 12, a lock at 11, a lock and a coin at 10, a coin at 9; sizes 1, 2, 3 and 10. */
    private static final String CROWDED = "ladder 12 12 10 9 steps 1 2 3 10; ladder 9 9; lock 0 11; lock 0 10; tokens 1 1 1;";

    public static void main(String[] args) {
        allowedToThePlayer();
        noneWhenOver();
        mostThatCanBeAllowed();
        orderOfChoices();
        sumBehindAChoice();
        noSuchStep();
        choiceOfNothing();
        bestStep();
        bestOfNone();
        stepWhenOver();
        stepOnNoLadder();
        stepOfNoCoin();
        stepOfNoSize();
        stepBelowTheGround();
        stepToALock();
        stepToACoin();
        stepOnAClaim();
        stepOfABan();
        firstReasonOfAStep();
        claimReasons();
        firstReasonOfAClaim();
        lockReasons();
        firstReasonOfALock();
        backReasons();
        backWhenOver();
        due.end();
    }

    private static void allowedToThePlayer() {
        due.says("Returns the number of steps that are allowed now to the player who has to act");
        CoinLadders x = Due.game("ladder 9 9; ladder 2 2; ladder 1 1; tokens 9 9 9;");
        due.is("all", 6, () -> x.allowed());
        x.claim(0);
        due.is("the other has claimed 3", 3, () -> x.allowed());
        x.claim(1);
        due.is("the other has claimed 2", 4, () -> x.allowed());
        x.claim(2);
        due.is("the other has claimed 3 and 1", 2, () -> x.allowed());
        x.step(1, 2, 2);
        due.is("ladder 0 is free again, 1 is empty", 4, () -> x.allowed());
        x.back();
        // 1 has to act: ladder 1 is free again, one step there is banned, ladder 2 is 0's
        due.is("but the banned one", 4, () -> x.allowed());
        x.lock(0, 8);
        due.is("without the ban, but with a lock", 2 + 2 + 1, () -> x.allowed());
    }

    private static void noneWhenOver() {
        due.says("0 if the game is over");
        due.is("a new object", 0, () -> new CoinLadders().allowed());
        due.is("no step from the beginning", 0, () -> Due.game("ladder 5 3 2 steps 4;").allowed());
        CoinLadders x = Due.game("ladder 2 2;");
        x.step(0, 2, 2);
        due.is("behind the last step", 0, () -> x.allowed());
        x.undo();
        due.is("and behind undo", 2, () -> x.allowed());
    }

    private static void mostThatCanBeAllowed() {
        due.says("a ladder has 1 to 3 coins and 1 to 4 step sizes");
        String one = "ladder 12 12 11 10 steps 3 4 5 6;";
        CoinLadders x = Due.game(one + one + one + one + one + one);
        due.is("72", 72, () -> x.allowed());
        due.is("the last one's ladder", 5, () -> x.choice(71, 0));
        due.is("the last one's height", 10, () -> x.choice(71, 1));
        due.is("the last one's size", 6, () -> x.choice(71, 2));
        due.fails("no 73rd", INDEX, () -> x.choice(72, 0));
        for (int k = 0; k < 72; k++) {
            int number = k;
            int want = k / 12 * 10000 + (12 - k / 4 % 3) * 100 + 3 + k % 4;
            due.is("step " + k, want,
                    () -> x.choice(number, 0) * 10000 + x.choice(number, 1) * 100 + x.choice(number, 2));
        }
    }

    private static void orderOfChoices() {
        due.says("They are numbered from 0: by ascending ladder, then by descending height, then by ascending size.");
        CoinLadders x = Due.game("ladder 12 1 12 6 steps 12 6 1 2; ladder 3 3 steps 3 1; ladder 1 1; lock 0 5; tokens 1 1 1;");
        int[][] want = {{0, 12, 1}, {0, 12, 2}, {0, 12, 12}, {0, 6, 2}, {0, 6, 6}, {0, 1, 1}, {1, 3, 1}, {1, 3, 3}, {2, 1, 1}};
        due.is("all", want.length, () -> x.allowed());
        for (int k = 0; k < want.length; k++) {
            choiceIs(x, k, want[k]);
        }
        x.claim(0);
        choiceIs(x, 0, want[6]);
        choiceIs(x, 1, want[7]);
        choiceIs(x, 2, want[8]);
        due.fails("no more", INDEX, () -> x.choice(3, 0));
        x.step(1, 3, 1);
        x.back();
        // behind the ban the numbers move up
        choiceIs(x, 0, want[7]);
        choiceIs(x, 1, want[8]);
        due.is("two", 2, () -> x.allowed());
    }

    private static void choiceIs(CoinLadders x, int k, int[] want) {
        for (int i = 0; i < 3; i++) {
            int what = i;
            due.is("choice(" + k + ", " + what + ")", want[what], () -> x.choice(k, what));
        }
    }

    private static void sumBehindAChoice() {
        due.says("3 the sum behind it");
        CoinLadders x = Due.game("ladder 12 7; ladder 12 6; ladder 2 1 2;");
        // values 3, 2 and 0; 7 to 6, 5, 4; 6 to 5, 4, 3; {1, 2} to {1} and {2}
        int[] want = {2 ^ 2, 1 ^ 2, 2, 3 ^ 1, 3, 3 ^ 3, 3 ^ 2 ^ 1, 3 ^ 2 ^ 2};
        due.is("the sum", 1, () -> x.sum());
        due.is("all", 8, () -> x.allowed());
        for (int i = 0; i < 8; i++) {
            int k = i;
            due.is("choice(" + k + ", 3)", want[k], () -> x.choice(k, 3));
            due.is("the same behind the step", want[k], () -> x.step(x.choice(k, 0), x.choice(k, 1), x.choice(k, 2)));
            x.undo();
        }
        due.is("nothing has moved", 0, () -> x.size(2));
    }

    private static void noSuchStep() {
        due.says("choice: Throws `IndexOutOfBoundsException` if there is no such step (checked first)");
        int[] wrong = {-1, 3, 4, 72, LEAST, GREATEST};
        for (int k : wrong) {
            CoinLadders y = Due.game("ladder 3 3;");
            due.failsAndLeaves("choice(" + k + ", 0)", INDEX, y, () -> y.choice(k, 0));
            due.fails("choice(" + k + ", 4)", INDEX, () -> y.choice(k, 4));
            due.fails("choice(" + k + ", -1)", INDEX, () -> y.choice(k, -1));
        }
        CoinLadders x = Due.game("ladder 3 3;");
        due.is("the last one", 3, () -> x.choice(2, 2));
        x.claim(0);
        due.fails("none is allowed", INDEX, () -> x.choice(0, 0));
        due.fails("over", INDEX, () -> new CoinLadders().choice(0, 0));
    }

    private static void choiceOfNothing() {
        due.says("choice: Throws `IllegalArgumentException` if what is out of range");
        CoinLadders x = Due.game("ladder 3 3;");
        int[] wrong = {-1, 4, LEAST, GREATEST};
        for (int what : wrong) {
            due.failsAndLeaves("choice(0, " + what + ")", ARGUMENT, x, () -> x.choice(0, what));
            due.fails("choice(2, " + what + ")", ARGUMENT, () -> x.choice(2, what));
        }
        due.is("the last what", 2, () -> x.choice(0, 3));
    }

    private static void bestStep() {
        due.says("Returns the number of the first allowed step behind which the sum is 0;");
        due.is("the first of all", 0, () -> Due.game("ladder 12 9;").best());
        due.is("the last of all", 2, () -> Due.game("ladder 12 7;").best());
        CoinLadders x = Due.game("ladder 12 7; ladder 12 7; ladder 12 7; tokens 1 1 1;");
        due.is("the first of three", 2, () -> x.best());
        x.claim(0);
        due.is("the first that is not claimed by the other", 2, () -> x.best());
        due.is("it is on ladder 1", 1, () -> x.choice(2, 0));
        x.step(1, 7, 3);
        x.back();
        // ladder 0 is claimed by 0 for one act more; 1 has to act, 7 to 4 is banned on ladder 1
        due.is("the first that is not banned", 4, () -> x.best());
        due.is("it is on ladder 2", 2, () -> x.choice(4, 0));
        due.is("its size", 3, () -> x.choice(4, 2));
    }

    private static void bestOfNone() {
        due.says("NONE if there is none");
        due.is("no ladders", -1, () -> new CoinLadders().best());
        due.is("over", -1, () -> Due.game("ladder 5 5 steps 6;").best());
        due.is("the sum is 0", -1, () -> Due.game("ladder 12 8;").best());
        due.is("the sum is 0 with two", -1, () -> Due.game("ladder 12 7; ladder 12 3;").best());
        CoinLadders x = Due.game("ladder 12 7; ladder 12 8; tokens 1 1 1;");
        x.step(0, 7, 3);
        x.back();
        // another step from 8 leads to 7 (3): with 3 the sum is 0
        due.is("the best one is banned, another is left", 2, () -> x.best());
        x.claim(0);
        due.is("the other's claim leaves 8 to 7", 0, () -> x.best());
        CoinLadders y = Due.game("ladder 12 7;");
        y.claim(0);
        due.is("none is allowed", -1, () -> y.best());
        CoinLadders z = Due.game("ladder 2 2 steps 2; ladder 8 8 steps 8 1; ladder 2 1; lock 1 7;");
        due.is("values 1, 1 and 1", 1, () -> z.sum());
        z.step(2, 1, 1);
        due.is("the sum is 0 behind a step", -1, () -> z.best());
    }

    private static void stepWhenOver() {
        due.says("1 the game is over");
        CoinLadders x = Due.game("ladder 9 9 1 steps 8; lock 0 1;");
        for (int ladder = -1; ladder < 2; ladder++) {
            for (int height = -1; height < 11; height++) {
                int l = ladder;
                int h = height;
                due.is("whyNotStep(" + l + ", " + h + ", 8)", 1, () -> x.whyNotStep(l, h, 8));
            }
        }
        due.is("no ladders", 1, () -> new CoinLadders().whyNotStep(LEAST, LEAST, LEAST));
        due.is("greatest", 1, () -> new CoinLadders().whyNotStep(GREATEST, GREATEST, GREATEST));
    }

    private static void stepOnNoLadder() {
        due.says("whyNotStep: 2 there is no such ladder");
        CoinLadders x = Due.game(CROWDED);
        int[] wrong = {-1, 2, 5, 6, LEAST, GREATEST};
        for (int ladder : wrong) {
            due.is("ladder " + ladder, 2, () -> x.whyNotStep(ladder, 9, 1));
            due.is("ladder " + ladder + ", height -1", 2, () -> x.whyNotStep(ladder, -1, 0));
            due.is("ladder " + ladder + ", greatest", 2, () -> x.whyNotStep(ladder, GREATEST, LEAST));
        }
        due.is("the last one", 0, () -> x.whyNotStep(1, 9, 1));
    }

    private static void stepOfNoCoin() {
        due.says("3 no coin lies there above the ground");
        CoinLadders x = Due.game(CROWDED);
        int[] wrong = {-1, 0, 1, 8, 11, 13, 31, 32, 41, 42, 44, 64, LEAST, GREATEST};
        for (int height : wrong) {
            due.is("height " + height, 3, () -> x.whyNotStep(0, height, 1));
            due.is("height " + height + ", no size", 3, () -> x.whyNotStep(0, height, 4));
            due.is("height " + height + ", least", 3, () -> x.whyNotStep(0, height, LEAST));
        }
        due.is("above the top", 3, () -> x.whyNotStep(1, 12, 1));
        due.is("one that has gone", 3, () -> {
            x.step(1, 9, 1);
            return x.whyNotStep(1, 9, 1);
        });
        CoinLadders y = Due.game("ladder 3 1 2;");
        y.step(0, 1, 1);
        due.is("a coin on the ground", 3, () -> y.whyNotStep(0, 0, 1));
        due.is("size 0", 3, () -> y.whyNotStep(0, 0, 0));
    }

    private static void stepOfNoSize() {
        due.says("4 the ladder has no such step size");
        CoinLadders x = Due.game(CROWDED);
        int[] wrong = {-1, 0, 4, 9, 11, 12, 13, 31, 32, 33, 34, 42, 65, LEAST, GREATEST};
        for (int size : wrong) {
            due.is("size " + size, 4, () -> x.whyNotStep(0, 12, size));
            due.is("size " + size + " of another height", 4, () -> x.whyNotStep(0, 9, size));
        }
        due.is("another ladder's size", 4, () -> x.whyNotStep(1, 9, 10));
    }

    private static void stepBelowTheGround() {
        due.says("5 it would go below the ground");
        CoinLadders x = Due.game(CROWDED);
        due.is("to -1", 5, () -> x.whyNotStep(0, 9, 10));
        due.is("to the ground", 0, () -> x.whyNotStep(0, 10, 10));
        CoinLadders y = Due.game("ladder 12 1 12 steps 12 2; lock 0 1;");
        due.is("to -11", 5, () -> y.whyNotStep(0, 1, 12));
        due.is("to -1 from a lock", 5, () -> y.whyNotStep(0, 1, 2));
        due.is("12 to the ground", 0, () -> y.whyNotStep(0, 12, 12));
    }

    private static void stepToALock() {
        due.says("6 the height to which it goes is locked");
        CoinLadders x = Due.game(CROWDED);
        due.is("a lock", 6, () -> x.whyNotStep(0, 12, 1));
        due.is("a lock with a coin", 6, () -> x.whyNotStep(0, 12, 2));
        x.lock(1, 8);
        due.is("a new lock", 6, () -> x.whyNotStep(1, 9, 1));
        due.is("over it", 0, () -> x.whyNotStep(1, 9, 2));
        x.undo();
        due.is("undone", 0, () -> x.whyNotStep(1, 9, 1));
    }

    private static void stepToACoin() {
        due.says("7 a coin lies there, above the ground");
        CoinLadders x = Due.game(CROWDED);
        due.is("a coin", 7, () -> x.whyNotStep(0, 10, 1));
        due.is("over it", 0, () -> x.whyNotStep(0, 10, 2));
        due.is("to a coin, passing a lock", 7, () -> x.whyNotStep(0, 12, 3));
        CoinLadders y = Due.game("ladder 3 3 2 1;");
        y.step(0, 2, 2);
        due.is("a coin on the ground does not matter", 0, () -> y.whyNotStep(0, 1, 1));
        due.is("where it was there is room", 0, () -> y.whyNotStep(0, 3, 1));
        due.is("the one at 1 stays", 7, () -> y.whyNotStep(0, 3, 2));
    }

    private static void stepOnAClaim() {
        due.says("8 the other player has claimed the ladder");
        for (int first = 0; first < 2; first++) {
            CoinLadders x = Due.game("ladder 12 12; ladder 12 12; tokens 1 1 1; first " + first + ";");
            x.claim(0);
            due.is("the other", 8, () -> x.whyNotStep(0, 12, 1));
            due.is("not on another ladder", 0, () -> x.whyNotStep(1, 12, 1));
            x.step(1, 12, 1);
            due.is("the player's own", 0, () -> x.whyNotStep(0, 12, 1));
            x.step(1, 11, 1);
            due.is("the other, behind two acts", 8, () -> x.whyNotStep(0, 12, 1));
            x.step(1, 10, 1);
            due.is("behind three acts", 0, () -> x.whyNotStep(0, 12, 1));
            x.step(1, 9, 1);
            due.is("behind four acts", 0, () -> x.whyNotStep(0, 12, 1));
        }
    }

    private static void stepOfABan() {
        due.says("9 it is banned");
        CoinLadders x = Due.game("ladder 9 9 5; ladder 9 9; tokens 1 1 2;");
        due.is("not yet", 0, () -> x.whyNotStep(0, 9, 2));
        x.step(0, 9, 2);
        x.back();
        due.is("the same step", 9, () -> x.whyNotStep(0, 9, 2));
        due.is("another size", 0, () -> x.whyNotStep(0, 9, 1));
        due.is("another height", 0, () -> x.whyNotStep(0, 5, 2));
        due.is("another ladder", 0, () -> x.whyNotStep(1, 9, 2));
        due.is("one ban alone", 2 + 3 + 3, () -> x.allowed());
        x.lock(1, 1);
        due.is("only for the next act", 0, () -> x.whyNotStep(0, 9, 2));
    }

    private static void firstReasonOfAStep() {
        due.says("whyNotStep: Returns the first reason that applies");
        CoinLadders x = Due.game(CROWDED);
        x.claim(0);
        due.is("no coin, no size, claimed", 3, () -> x.whyNotStep(0, 11, 4));
        due.is("no size, claimed", 4, () -> x.whyNotStep(0, 9, 12));
        due.is("below the ground, claimed", 5, () -> x.whyNotStep(0, 9, 10));
        due.is("locked, a coin there, claimed", 6, () -> x.whyNotStep(0, 12, 2));
        due.is("a coin there, claimed", 7, () -> x.whyNotStep(0, 10, 1));
        due.is("claimed", 8, () -> x.whyNotStep(0, 9, 1));
        CoinLadders y = Due.game("ladder 9 9; ladder 9 9; tokens 1 1 1;");
        y.claim(0);
        y.step(1, 9, 1);
        y.back();
        due.is("the ban on ladder 1", 9, () -> y.whyNotStep(1, 9, 1));
        due.is("the claim on ladder 0", 8, () -> y.whyNotStep(0, 9, 1));
    }

    private static void claimReasons() {
        due.says("whyNotClaim: 1 the game is over, 2 there is no such ladder, 3 it is claimed, 4 the player has no claim token; "
                + "0 if none applies");
        CoinLadders x = Due.game("ladder 9 9; ladder 9 9; ladder 9 9 steps 10; tokens 1 1 1;");
        int[] wrong = {-1, 3, 5, 6, LEAST, GREATEST};
        for (int ladder : wrong) {
            due.is("ladder " + ladder, 2, () -> x.whyNotClaim(ladder));
            due.is("ladder " + ladder + " when over", 1, () -> new CoinLadders().whyNotClaim(ladder));
        }
        due.is("the first", 0, () -> x.whyNotClaim(0));
        due.is("the last, on which no step can be made", 0, () -> x.whyNotClaim(2));
        x.claim(0);
        due.is("claimed by the other", 3, () -> x.whyNotClaim(0));
        due.is("another one", 0, () -> x.whyNotClaim(1));
        x.step(1, 9, 1);
        due.is("no token", 4, () -> x.whyNotClaim(1));
        due.is("the third act has not come", 3, () -> x.whyNotClaim(0));
        x.step(1, 8, 1);
        due.is("still claimed", 3, () -> x.whyNotClaim(0));
        x.step(1, 7, 1);
        due.is("free, but no token", 4, () -> x.whyNotClaim(0));
        x.step(1, 6, 1);
        due.is("1 has a token", 0, () -> x.whyNotClaim(0));
        due.is("no tokens from the beginning", 4, () -> Due.game("ladder 1 1; tokens 0 9 9;").whyNotClaim(0));
    }

    private static void firstReasonOfAClaim() {
        due.says("whyNotClaim: Returns the first reason that applies");
        CoinLadders x = Due.game("ladder 2 2 steps 2; tokens 1 1 1;");
        x.claim(0);
        x.pass();
        due.is("claimed by the player, no token", 3, () -> x.whyNotClaim(0));
        due.is("no such ladder, no token", 2, () -> x.whyNotClaim(1));
        x.step(0, 2, 2);
        due.is("over, claimed", 1, () -> x.whyNotClaim(0));
        due.is("over, no such ladder", 1, () -> x.whyNotClaim(1));
    }

    private static void lockReasons() {
        due.says("whyNotLock: 3 there is no such height above the ground, 4 it is locked, 5 a coin lies there, 6 the player has no "
                + "lock token; 0 if none applies");
        CoinLadders x = Due.game("ladder 12 12; ladder 5 5 4; lock 1 1; lock 1 4; tokens 1 1 1;");
        int[] wrong = {-1, 2, 5, 6, LEAST, GREATEST};
        for (int ladder : wrong) {
            due.is("ladder " + ladder, 2, () -> x.whyNotLock(ladder, 1));
        }
        int[] noHeight = {-1, 0, 6, 12, 13, 31, 32, 33, 34, 36, LEAST, GREATEST};
        for (int height : noHeight) {
            due.is("height " + height, 3, () -> x.whyNotLock(1, height));
        }
        due.is("13 of 12", 3, () -> x.whyNotLock(0, 13));
        due.is("the ground", 3, () -> x.whyNotLock(0, 0));
        for (int height = 1; height <= 12; height++) {
            int h = height;
            due.is("height " + height + " of 12", height == 12 ? 5 : 0, () -> x.whyNotLock(0, h));
        }
        int[] want = {3, 4, 0, 0, 4, 5, 3};
        for (int height = 0; height <= 6; height++) {
            int h = height;
            due.is("height " + height + " of 5", want[h], () -> x.whyNotLock(1, h));
        }
        x.lock(0, 11);
        due.is("locked now", 4, () -> x.whyNotLock(0, 11));
        due.is("1 has a token", 0, () -> x.whyNotLock(0, 10));
        x.step(0, 12, 2);
        due.is("0 has none", 6, () -> x.whyNotLock(0, 12));
        due.is("claimed ladders can be locked", 0, () -> {
            CoinLadders y = Due.game("ladder 5 5;");
            y.claim(0);
            return y.whyNotLock(0, 4);
        });
        due.is("ladders without steps, too", 0, () -> Due.game("ladder 5 5 steps 6; ladder 1 1;").whyNotLock(0, 4));
    }

    private static void firstReasonOfALock() {
        due.says("whyNotLock: Returns the first reason that applies");
        CoinLadders x = Due.game("ladder 5 5 4; lock 0 1; lock 0 4; tokens 1 0 1;");
        due.is("no such ladder, no height", 2, () -> x.whyNotLock(1, 0));
        due.is("no height, no token", 3, () -> x.whyNotLock(0, 6));
        due.is("locked, a coin, no token", 4, () -> x.whyNotLock(0, 4));
        due.is("locked, no token", 4, () -> x.whyNotLock(0, 1));
        due.is("a coin, no token", 5, () -> x.whyNotLock(0, 5));
        due.is("no token", 6, () -> x.whyNotLock(0, 2));
        CoinLadders y = Due.game("ladder 5 1; lock 0 2;");
        y.step(0, 1, 1);
        int[] heights = {-1, 0, 1, 2, 6, LEAST, GREATEST};
        for (int height : heights) {
            due.is("over, height " + height, 1, () -> y.whyNotLock(0, height));
            due.is("over, no such ladder, height " + height, 1, () -> y.whyNotLock(1, height));
        }
    }

    private static void backReasons() {
        due.says("1 there is no act, or the latest one is no step, 2 the player has no back token; 0 if none applies");
        CoinLadders x = Due.game("ladder 2 2 steps 1; ladder 9 9; tokens 9 9 1;");
        due.is("no act", 1, () -> x.whyNotBack());
        x.step(1, 9, 1);
        due.is("a step", 0, () -> x.whyNotBack());
        x.back();
        due.is("a back", 1, () -> x.whyNotBack());
        x.step(1, 9, 2);
        due.is("no token", 2, () -> x.whyNotBack());
        x.claim(0);
        due.is("a claim", 1, () -> x.whyNotBack());
        x.lock(1, 1);
        due.is("a lock", 1, () -> x.whyNotBack());
        due.is("no act and no token", 1, () -> Due.game("ladder 1 1; tokens 1 1 0;").whyNotBack());
        due.is("a new object", 1, () -> new CoinLadders().whyNotBack());
        CoinLadders y = Due.game("ladder 2 2 steps 1; tokens 9 9 1;");
        y.claim(0);
        y.pass();
        due.is("a pass", 1, () -> y.whyNotBack());
        y.play(1);
        due.is("a step of play", 0, () -> y.whyNotBack());
        y.undo();
        due.is("undone", 1, () -> y.whyNotBack());
    }

    private static void backWhenOver() {
        due.says("(A step can also be taken back if the game is over.)");
        CoinLadders x = Due.game("ladder 2 2; tokens 1 1 1;");
        x.step(0, 2, 2);
        due.is("over", 1, () -> x.size(3));
        due.is("can be taken back", 0, () -> x.whyNotBack());
        due.is("the same by play", 0, () -> {
            CoinLadders y = Due.game("ladder 2 2; tokens 1 1 1;");
            y.play(60);
            return y.whyNotBack();
        });
        due.is("not if a lock has ended it", 1, () -> {
            CoinLadders y = Due.game("ladder 2 2 steps 1; tokens 1 1 1;");
            y.lock(0, 1);
            return y.whyNotBack();
        });
        due.is("not without a token", 2, () -> {
            CoinLadders y = Due.game("ladder 1 1; tokens 1 1 0;");
            y.step(0, 1, 1);
            return y.whyNotBack();
        });
    }
}
