/** Promises 16 to 22: allowed, choice, best and the reasons. */
public final class ReasonsTest {
    private static final Due due = new Due("ReasonsTest");
    private static final int LEAST = Integer.MIN_VALUE;
    private static final int GREATEST = Integer.MAX_VALUE;

    public static void main(String[] args) {
        allowed();
        choiceInOrder();
        choiceLeavesOut();
        best();
        whyNotStepInOrder();
        whyNotStepByClaim();
        whyNotStepByBan();
        whyNotClaim();
        whyNotLock();
        whyNotBack();
        whenTheGameIsOver();
        due.end();
    }

    private static void allowed() {
        due.is("no ladders", 0, () -> new CoinLadders().allowed());
        CoinLadders x = Due.game("ladder 12 12; ladder 5 5 4 2; tokens 2 1 1;");
        due.is("3 and 5", 8, () -> x.allowed());
        x.claim(0);
        due.is("the other's claim", 5, () -> x.allowed());
        x.claim(1);
        due.is("an own claim and the other's", 3, () -> x.allowed());
        CoinLadders y = Due.game("ladder 12 12; ladder 5 5 4 2;");
        y.step(1, 4, 3);
        y.back();
        due.is("one is banned", 7, () -> y.allowed());
        y.lock(0, 2);
        due.is("none is banned", 8, () -> y.allowed());
        CoinLadders z = Due.game("ladder 3 3 2 1 steps 4;");
        due.is("over", 0, () -> z.allowed());
    }

    private static void choiceInOrder() {
        CoinLadders x = Due.game("ladder 7 2 7 steps 3 2 1; ladder 12 10 steps 10 4 9; ladder 1 1;");
        // the values at first: 1 and 2 and 1
        int[][] want = {
            {0, 7, 1}, {0, 7, 2}, {0, 7, 3}, {0, 2, 1}, {0, 2, 2},
            {1, 10, 4}, {1, 10, 9}, {1, 10, 10}, {2, 1, 1}
        };
        due.is("allowed", want.length, () -> x.allowed());
        for (int i = 0; i < want.length; i++) {
            int k = i;
            for (int j = 0; j < 3; j++) {
                int what = j;
                due.is("choice(" + k + ", " + what + ")", want[k][what], () -> x.choice(k, what));
            }
        }
        for (int i = 0; i < want.length; i++) {
            int k = i;
            CoinLadders y = Due.game("ladder 7 2 7 steps 3 2 1; ladder 12 10 steps 10 4 9; ladder 1 1;");
            int behind = y.step(want[k][0], want[k][1], want[k][2]);
            due.is("choice(" + k + ", 3)", behind, () -> x.choice(k, 3));
        }
        due.is("nothing has moved", 0, () -> x.size(2));
        int[] no = {-1, 9, LEAST, GREATEST};
        for (int k : no) {
            due.fails("choice(" + k + ", 0)", IndexOutOfBoundsException.class, () -> x.choice(k, 0));
            due.fails("choice(" + k + ", 4)", IndexOutOfBoundsException.class, () -> x.choice(k, 4));
        }
        int[] noWhat = {-1, 4, LEAST, GREATEST};
        for (int what : noWhat) {
            due.fails("choice(0, " + what + ")", IllegalArgumentException.class, () -> x.choice(0, what));
        }
        due.fails("no steps", IndexOutOfBoundsException.class, () -> new CoinLadders().choice(0, 0));
    }

    private static void choiceLeavesOut() {
        CoinLadders x = Due.game("ladder 5 5; ladder 3 3; ladder 4 4 3;");
        x.step(2, 4, 2);
        x.back();
        // 3 and 3 and 5
        due.is("but the banned one", 10, () -> x.allowed());
        due.is("the first of the last ladder", 4, () -> x.choice(6, 1));
        due.is("with size 3, as 2 is banned", 3, () -> x.choice(6, 2));
        x.claim(0);
        due.is("without the claimed one", 8, () -> x.allowed());
        due.is("the first one now", 1, () -> x.choice(0, 0));
        due.is("the sum with coins at 5 and at 2", 1 ^ 2 ^ x.ladder(2, 3), () -> x.choice(0, 3));
    }

    private static void best() {
        due.is("no ladders", -1, () -> new CoinLadders().best());
        CoinLadders x = Due.game("ladder 12 12; ladder 12 8; ladder 12 7;");
        // 0 ^ 0 ^ 3: 12 to 11 (3), 8 to 7 (3), or 7 to 4 (0)
        due.is("the first one", 0, () -> x.best());
        due.is("its sum", 0, () -> x.choice(0, 3));
        CoinLadders y = Due.game("ladder 12 8; ladder 12 6;");
        // 0 ^ 2: 8 to 6 is the second step
        due.is("the second one", 1, () -> y.best());
        y.step(0, 8, 2);
        due.is("none", -1, () -> y.best());
        y.back();
        // number 1 is now 8 to 5; 6 to 4 is the step with number 3
        due.is("but the banned one", 3, () -> y.best());
        y.claim(1);
        due.is("claimed by the other", 1, () -> y.best());
    }

    private static void whyNotStepInOrder() {
        CoinLadders x = Due.game("ladder 12 9 8 2 steps 1 3 12; ladder 5 5; lock 0 6; lock 0 5; lock 0 8;");
        int[] noLadder = {-1, 2, 6, LEAST, GREATEST};
        for (int ladder : noLadder) {
            due.is("ladder " + ladder, 2, () -> x.whyNotStep(ladder, 0, 0));
        }
        int[] noCoin = {-1, 0, 1, 5, 10, 12, 13, 32, 34, 41, LEAST, GREATEST};
        for (int height : noCoin) {
            due.is("height " + height, 3, () -> x.whyNotStep(0, height, 99));
        }
        int[] noSize = {-1, 0, 2, 4, 11, 13, 32, 33, 35, LEAST, GREATEST};
        for (int size : noSize) {
            due.is("size " + size, 4, () -> x.whyNotStep(0, 2, size));
        }
        due.is("below the ground", 5, () -> x.whyNotStep(0, 2, 3));
        due.is("far below the ground", 5, () -> x.whyNotStep(0, 9, 12));
        due.is("to a locked height", 6, () -> x.whyNotStep(0, 9, 3));
        due.is("to a locked height from a locked one", 6, () -> x.whyNotStep(0, 8, 3));
        due.is("to a locked height with a coin", 6, () -> x.whyNotStep(0, 9, 1));
        due.is("from a locked height", 0, () -> x.whyNotStep(0, 8, 1));
        due.is("can be made", 0, () -> x.whyNotStep(0, 2, 1));
        CoinLadders y = Due.game("ladder 9 9 8 1;");
        due.is("to a coin", 7, () -> y.whyNotStep(0, 9, 1));
        due.is("over a coin", 0, () -> y.whyNotStep(0, 9, 2));
        y.step(0, 1, 1);
        Due.parse(y, "ladder 3 2 1;");
        y.step(0, 1, 1);
        due.is("to the ground, where a coin lies", 0, () -> y.whyNotStep(0, 2, 2));
        due.is("no coin above the ground", 3, () -> y.whyNotStep(0, 0, 1));
    }

    private static void whyNotStepByClaim() {
        CoinLadders x = Due.game("ladder 9 9 8; ladder 9 9; tokens 2 1 1;");
        x.claim(0);
        due.is("claimed by the other", 8, () -> x.whyNotStep(0, 9, 2));
        due.is("a coin comes before the claim", 7, () -> x.whyNotStep(0, 9, 1));
        due.is("not claimed", 0, () -> x.whyNotStep(1, 9, 1));
        x.step(1, 9, 1);
        due.is("claimed by the player", 0, () -> x.whyNotStep(0, 9, 2));
        x.step(1, 8, 1);
        due.is("claimed still", 8, () -> x.whyNotStep(0, 9, 2));
        x.step(1, 7, 1);
        due.is("the third act has ended it", -1, () -> x.ladder(0, 4));
        due.is("free", 0, () -> x.whyNotStep(0, 9, 2));
        x.step(1, 6, 1);
        due.is("free for the other", 0, () -> x.whyNotStep(0, 9, 2));
    }

    private static void whyNotStepByBan() {
        CoinLadders x = Due.game("ladder 9 9; ladder 9 9; tokens 1 1 2;");
        x.step(0, 9, 1);
        x.back();
        due.is("banned", 9, () -> x.whyNotStep(0, 9, 1));
        due.is("another size", 0, () -> x.whyNotStep(0, 9, 2));
        due.is("another ladder", 0, () -> x.whyNotStep(1, 9, 1));
        x.step(0, 9, 2);
        x.back();
        due.is("the newer ban", 9, () -> x.whyNotStep(0, 9, 2));
        due.is("the older one has ended", 0, () -> x.whyNotStep(0, 9, 1));
        x.claim(1);
        due.is("no longer banned", 0, () -> x.whyNotStep(0, 9, 2));
        CoinLadders y = Due.game("ladder 9 9; ladder 9 9;");
        y.claim(0);
        y.step(1, 9, 1);
        y.step(0, 9, 1);
        y.back();
        due.is("an own claim has ended", 9, () -> y.whyNotStep(0, 9, 1));
        CoinLadders z = Due.game("ladder 9 9; ladder 9 9; first 1;");
        z.claim(0);
        z.step(1, 9, 1);
        z.undo();
        z.undo();
        z.step(0, 9, 3);
        z.claim(0);
        due.is("the claim", 8, () -> z.whyNotStep(0, 6, 1));
    }

    private static void whyNotClaim() {
        CoinLadders x = Due.game("ladder 9 9; ladder 9 9; ladder 9 9; tokens 1 1 1;");
        int[] no = {-1, 3, 6, LEAST, GREATEST};
        for (int ladder : no) {
            due.is("ladder " + ladder, 2, () -> x.whyNotClaim(ladder));
        }
        due.is("can be claimed", 0, () -> x.whyNotClaim(2));
        x.claim(2);
        due.is("claimed by the other", 3, () -> x.whyNotClaim(2));
        x.step(0, 9, 1);
        due.is("claimed by the player, who has no token", 3, () -> x.whyNotClaim(2));
        due.is("no token", 4, () -> x.whyNotClaim(0));
        x.step(0, 8, 1);
        due.is("the other has one", 0, () -> x.whyNotClaim(1));
        CoinLadders y = Due.game("ladder 3 3 steps 4; ladder 1 1;");
        due.is("a ladder without steps", 0, () -> y.whyNotClaim(0));
    }

    private static void whyNotLock() {
        CoinLadders x = Due.game("ladder 9 9 4; ladder 12 12; lock 0 4; lock 0 3; tokens 1 1 1;");
        int[] no = {-1, 2, 6, LEAST, GREATEST};
        for (int ladder : no) {
            due.is("ladder " + ladder, 2, () -> x.whyNotLock(ladder, 0));
        }
        int[] noHeight = {-1, 0, 10, 12, 35, LEAST, GREATEST};
        for (int height : noHeight) {
            due.is("height " + height, 3, () -> x.whyNotLock(0, height));
        }
        due.is("13", 3, () -> x.whyNotLock(1, 13));
        due.is("locked", 4, () -> x.whyNotLock(0, 3));
        due.is("locked, and a coin there", 4, () -> x.whyNotLock(0, 4));
        due.is("a coin", 5, () -> x.whyNotLock(0, 9));
        due.is("can be locked", 0, () -> x.whyNotLock(0, 1));
        x.claim(0);
        due.is("claimed, but can be locked", 0, () -> x.whyNotLock(0, 1));
        x.lock(0, 1);
        due.is("the other has a token", 0, () -> x.whyNotLock(0, 2));
        x.lock(0, 2);
        due.is("no token", 6, () -> x.whyNotLock(0, 5));
        due.is("a coin, and no token", 5, () -> x.whyNotLock(0, 9));
        due.is("locked, and no token", 4, () -> x.whyNotLock(0, 1));
    }

    private static void whyNotBack() {
        CoinLadders x = Due.game("ladder 9 9; ladder 9 9; tokens 1 1 1;");
        due.is("no act", 1, () -> x.whyNotBack());
        x.claim(1);
        due.is("a claim", 1, () -> x.whyNotBack());
        x.lock(0, 1);
        due.is("a lock", 1, () -> x.whyNotBack());
        x.step(0, 9, 1);
        due.is("a step", 0, () -> x.whyNotBack());
        x.back();
        due.is("a back", 1, () -> x.whyNotBack());
        x.step(0, 9, 2);
        x.step(0, 7, 2);
        due.is("the other can", 0, () -> x.whyNotBack());
        x.step(0, 5, 1);
        due.is("no token", 2, () -> x.whyNotBack());
        CoinLadders y = Due.game("ladder 1 1; tokens 1 1 0;");
        due.is("no act, and no token", 1, () -> y.whyNotBack());
        y.claim(0);
        y.pass();
        due.is("a pass", 1, () -> y.whyNotBack());
        y.step(0, 1, 1);
        due.is("no token at all", 2, () -> y.whyNotBack());
    }

    private static void whenTheGameIsOver() {
        CoinLadders x = Due.game("ladder 1 1; tokens 1 1 1;");
        x.step(0, 1, 1);
        due.is("step", 1, () -> x.whyNotStep(0, 1, 1));
        due.is("step on no ladder", 1, () -> x.whyNotStep(7, 1, 1));
        due.is("claim", 1, () -> x.whyNotClaim(0));
        due.is("claim of no ladder", 1, () -> x.whyNotClaim(-1));
        due.is("lock", 1, () -> x.whyNotLock(0, 1));
        due.is("lock on no ladder", 1, () -> x.whyNotLock(9, 1));
        due.is("back", 0, () -> x.whyNotBack());
    }
}
