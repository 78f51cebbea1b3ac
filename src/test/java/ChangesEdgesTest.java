/** Promises 23 to 28: each sentence of the document that names a boundary case of an act has a method here. */
public final class ChangesEdgesTest {
    private static final Due due = new Due("ChangesEdgesTest");
    private static final Class<IllegalArgumentException> ARGUMENT = IllegalArgumentException.class;
    private static final Class<IllegalStateException> STATE = IllegalStateException.class;
    private static final int LEAST = Integer.MIN_VALUE;
    private static final int GREATEST = Integer.MAX_VALUE;

    public static void main(String[] args) {
        inTurns();
        stepAnswersTheSum();
        stepsToTheGround();
        refusedSteps();
        refusedStepsOfClaimsAndBans();
        claimCostsAToken();
        threeActs();
        claimsOfBoth();
        claimedAgain();
        refusedClaims();
        lockCostsAToken();
        lockedFromNowOn();
        lockCanEndTheGame();
        refusedLocks();
        backCostsAToken();
        whereItWas();
        bannedForOneAct();
        banIsOnlyOfABack();
        backBehindTheEnd();
        refusedBacks();
        passOnlyIfNone();
        passBecauseOfTheBan();
        refusedPasses();
        playMakesTheBestStep();
        playMakesTheFirstStep();
        playPasses();
        playEndsEarlier();
        playsNumberOfActs();
        refusedPlays();
        lastPlayerWins();
        due.end();
    }

    private static void inTurns() {
        due.says("The players act in turns.");
        CoinLadders x = Due.game("ladder 12 12; ladder 1 1; tokens 2 2 2;");
        due.is("0 begins", 0, () -> x.size(1));
        x.step(0, 12, 1);
        due.is("behind a step", 1, () -> x.size(1));
        x.back();
        due.is("behind a back", 0, () -> x.size(1));
        x.claim(1);
        due.is("behind a claim", 1, () -> x.size(1));
        x.lock(0, 1);
        due.is("behind a lock", 0, () -> x.size(1));
        x.play(3);
        due.is("behind three acts of play", 1, () -> x.size(1));
        x.undo();
        due.is("behind undo", 0, () -> x.size(1));
        due.fails("a refused act", ARGUMENT, () -> x.lock(0, 1));
        due.is("does not change it", 0, () -> x.size(1));
        CoinLadders y = Due.game("ladder 1 1; first 1;");
        y.claim(0);
        due.is("a pass answers who is next", 1, () -> y.pass());
        due.is("that is", 1, () -> y.size(1));
    }

    private static void stepAnswersTheSum() {
        due.says("step: Returns the sum behind it.");
        CoinLadders x = Due.game("ladder 12 12 10 8 steps 1 4 5 6; ladder 7 7;");
        // values 8 and 3
        due.is("8 ^ 2", 10, () -> x.step(1, 7, 1));
        due.is("8 ^ 0", 8, () -> x.step(1, 6, 2));
        due.is("8 ^ 1", 9, () -> x.step(1, 4, 3));
        due.is("8", 8, () -> x.step(1, 1, 1));
        int first = x.step(0, 12, 6);
        due.is("the value of the one that is left", x.ladder(0, 3), () -> first);
        CoinLadders y = Due.game("ladder 1 1;");
        due.is("the last step", 0, () -> y.step(0, 1, 1));
    }

    private static void stepsToTheGround() {
        due.says("Above the ground, at most one coin lies at a height; on the ground there can be several.");
        CoinLadders x = Due.game("ladder 4 4 3 2 steps 1 2 3 4;");
        due.fails("4 to 3, where one lies", ARGUMENT, () -> x.step(0, 4, 1));
        x.step(0, 2, 2);
        due.is("the first", 1, () -> x.ladder(0, 2));
        x.step(0, 3, 3);
        due.is("the second", 2, () -> x.ladder(0, 2));
        x.step(0, 4, 4);
        due.is("the third", 3, () -> x.ladder(0, 2));
        x.back();
        due.is("one goes back", 1 << 4, () -> x.set(0, 0));
        due.is("two stay", 2, () -> x.ladder(0, 2));
    }

    private static void refusedSteps() {
        due.says("step: Throws `IllegalArgumentException` if whyNotStep is not 0");
        CoinLadders x = Due.game("ladder 9 9 8 2 steps 1 2 3; ladder 9 9; lock 0 6;");
        int[][] wrong = {{-1, 9, 1}, {2, 9, 1}, {6, 9, 1}, {LEAST, 9, 1}, {GREATEST, 9, 1}, {0, -1, 1}, {0, 0, 1}, {0, 7, 1},
            {0, 10, 1}, {0, LEAST, 1}, {0, GREATEST, 1}, {0, 41, 1}, {0, 9, 0}, {0, 9, -1}, {0, 9, 4}, {0, 9, LEAST},
            {0, 9, GREATEST}, {0, 9, 33}, {0, 2, 3}, {0, 9, 3}, {0, 8, 2}, {0, 9, 1}};
        for (int[] each : wrong) {
            String call = "step(" + each[0] + ", " + each[1] + ", " + each[2] + ")";
            due.isTrue("whyNotStep of " + call, x.whyNotStep(each[0], each[1], each[2]) != 0);
            CoinLadders y = Due.game("ladder 9 9 8 2 steps 1 2 3; ladder 9 9; lock 0 6;");
            due.failsAndLeaves(call, ARGUMENT, y, () -> y.step(each[0], each[1], each[2]));
            due.is("nothing to undo", -1, () -> y.undo());
        }
        CoinLadders z = new CoinLadders();
        due.failsAndLeaves("over", ARGUMENT, z, () -> z.step(0, 1, 1));
    }

    private static void refusedStepsOfClaimsAndBans() {
        due.says("a step on a ladder that the other player has not claimed; it must not be the banned one");
        CoinLadders x = Due.game("ladder 9 9; ladder 9 9; tokens 1 1 1;");
        x.claim(0);
        due.failsAndLeaves("claimed by the other", ARGUMENT, x, () -> x.step(0, 9, 1));
        x.step(1, 9, 1);
        due.is("claimed by the player", 2, () -> x.step(0, 9, 3));
        x.back();
        due.failsAndLeaves("banned", ARGUMENT, x, () -> x.step(0, 9, 3));
        due.is("another one is not", 3, () -> x.step(0, 9, 2));
        due.is("changes", 5, () -> x.size(5));
    }

    private static void claimCostsAToken() {
        due.says("Claim (kind 1): costs a claim token.");
        CoinLadders x = Due.game("ladder 12 12; ladder 12 12; ladder 12 12; tokens 2 3 4;");
        due.is("one is left to 0", 1, () -> x.claim(2));
        due.is("one is left to 1", 1, () -> x.claim(1));
        due.is("none is left to 0", 0, () -> x.claim(0));
        due.is("0 of 0", 0, () -> x.player(0, 0));
        due.is("1 of 1", 1, () -> x.player(1, 0));
        due.is("locks stay", 3, () -> x.player(0, 1));
        due.is("backs stay", 4, () -> x.player(0, 2));
        due.is("no steps", 0, () -> x.player(0, 3));
    }

    private static void threeActs() {
        due.says("each act that follows makes the claim shorter by 1, and behind the third one nobody has claimed the ladder any more");
        CoinLadders x = Due.game("ladder 12 12; ladder 12 12; tokens 9 9 9;");
        x.claim(0);
        lasts("the claim itself", x, 0, 3);
        x.step(1, 12, 1);
        lasts("a step", x, 0, 2);
        x.back();
        lasts("a back", x, 0, 1);
        due.fails("still the other's", ARGUMENT, () -> x.step(0, 12, 1));
        x.lock(0, 1);
        lasts("a lock", x, -1, 0);
        x.lock(1, 1);
        lasts("a fourth act", x, -1, 0);
        due.is("the other can go there", 0, () -> x.whyNotStep(0, 12, 1));
        CoinLadders y = Due.game("ladder 12 12; ladder 12 12; tokens 9 9 9;");
        y.claim(0);
        y.claim(1);
        lasts("another claim", y, 0, 2);
        y.play(1);
        lasts("play of one", y, 0, 1);
        y.undo();
        lasts("undo", y, 0, 2);
        y.play(2);
        lasts("play of two", y, -1, 0);
        CoinLadders z = Due.game("ladder 2 2 steps 1; tokens 1 1 1;");
        z.claim(0);
        z.pass();
        lasts("a pass", z, 0, 2);
        due.fails("a refused act", ARGUMENT, () -> z.claim(0));
        lasts("a refused act", z, 0, 2);
        z.step(0, 2, 1);
        lasts("the claimer's step", z, 0, 1);
        due.fails("still claimed", ARGUMENT, () -> z.step(0, 1, 1));
        z.pass();
        lasts("another pass", z, -1, 0);
    }

    private static void lasts(String behind, CoinLadders x, int claimer, int acts) {
        due.is("claimer behind " + behind, claimer, () -> x.ladder(0, 4));
        due.is("length behind " + behind, acts, () -> x.ladder(0, 5));
    }

    private static void claimsOfBoth() {
        due.says("A ladder that nobody has claimed is claimed by the player");
        CoinLadders x = Due.game("ladder 1 1;ladder 1 1;ladder 1 1;ladder 1 1;ladder 1 1;ladder 1 1; tokens 9 9 9;");
        x.claim(5);
        x.claim(0);
        x.claim(3);
        int[] claimers = {1, -1, -1, 0, -1, 0};
        int[] more = {2, 0, 0, 3, 0, 1};
        for (int i = 0; i < 6; i++) {
            int ladder = i;
            due.is("claimer of " + ladder, claimers[ladder], () -> x.ladder(ladder, 4));
            due.is("length of " + ladder, more[ladder], () -> x.ladder(ladder, 5));
        }
        due.is("but those of 0", 4, () -> x.allowed());
        x.claim(4);
        due.is("the first has ended", -1, () -> x.ladder(5, 4));
        due.is("but those of 1", 4, () -> x.allowed());
    }

    private static void claimedAgain() {
        due.says("behind the third one nobody has claimed the ladder any more");
        CoinLadders x = Due.game("ladder 12 12; ladder 12 12 steps 1; tokens 2 0 0;");
        x.claim(0);
        x.step(1, 12, 1);
        x.step(1, 11, 1);
        due.fails("not before the third act", ARGUMENT, () -> x.claim(0));
        x.step(1, 10, 1);
        due.is("by the same player", 0, () -> x.claim(0));
        lasts("another claim", x, 0, 3);
        x.step(1, 9, 1);
        x.step(1, 8, 1);
        x.step(1, 7, 1);
        x.step(1, 6, 1);
        due.is("by the other", 1, () -> x.claim(0));
        lasts("the other's claim", x, 1, 3);
    }

    private static void refusedClaims() {
        due.says("claim: Throws `IllegalArgumentException` if whyNotClaim is not 0");
        CoinLadders x = Due.game("ladder 9 9; ladder 9 9; tokens 1 1 1;");
        int[] wrong = {-1, 2, 5, 6, LEAST, GREATEST};
        for (int ladder : wrong) {
            due.fails("claim(" + ladder + ")", ARGUMENT, () -> x.claim(ladder));
        }
        due.is("nothing to undo", -1, () -> x.undo());
        due.is("no token is gone", 1, () -> x.player(0, 0));
        x.claim(0);
        due.failsAndLeaves("claimed", ARGUMENT, x, () -> x.claim(0));
        x.lock(1, 1);
        due.failsAndLeaves("no token", ARGUMENT, x, () -> x.claim(1));
        CoinLadders y = Due.game("ladder 1 1; tokens 9 9 9;");
        y.step(0, 1, 1);
        due.failsAndLeaves("over", ARGUMENT, y, () -> y.claim(0));
        due.fails("over, no such ladder", ARGUMENT, () -> y.claim(1));
    }

    private static void lockCostsAToken() {
        due.says("Lock (kind 2): costs a lock token.");
        CoinLadders x = Due.game("ladder 12 12; tokens 2 2 3;");
        x.lock(0, 1);
        due.is("0 has one left", 1, () -> x.player(0, 1));
        x.lock(0, 2);
        x.lock(0, 11);
        due.is("0 has none", 0, () -> x.player(0, 1));
        due.is("1 has one", 1, () -> x.player(1, 1));
        due.is("claims stay", 2, () -> x.player(0, 0));
        due.is("backs stay", 3, () -> x.player(0, 2));
        due.is("three locks", 1 << 1 | 1 << 2 | 1 << 11, () -> x.set(0, 1));
    }

    private static void lockedFromNowOn() {
        due.says("A height above the ground at which no coin lies, and which is not locked, is locked from now on.");
        CoinLadders x = Due.game("ladder 12 6; ladder 12 12; tokens 0 9 9;");
        due.is("the top", 2, () -> x.lock(0, 12));
        // 6 to 5 (0) and 3 (3)
        due.is("between", 1, () -> x.lock(0, 4));
        due.is("the lowest", 0, () -> x.lock(1, 1));
        due.is("the locks of 0", 1 << 12 | 1 << 4, () -> x.set(0, 1));
        due.is("the locks of 1", 2, () -> x.set(1, 1));
        due.fails("not to a lock", ARGUMENT, () -> x.step(0, 6, 2));
        x.play(6);
        due.is("they stay", 1 << 12 | 1 << 4, () -> x.set(0, 1));
        CoinLadders y = Due.game("ladder 9 9; tokens 0 1 0;");
        y.step(0, 9, 1);
        due.is("where a coin was", 0, () -> y.lock(0, 9));
    }

    private static void lockCanEndTheGame() {
        due.says("Returns the value of the ladder then.");
        CoinLadders x = Due.game("ladder 5 5 steps 1 3; tokens 1 1 1;");
        due.is("one way is left", 1, () -> x.lock(0, 4));
        due.is("none is left", 0, () -> x.lock(0, 2));
        due.is("over", 1, () -> x.size(3));
        due.is("who locked has won", 1, () -> x.size(4));
        due.fails("no act any more", ARGUMENT, () -> x.lock(0, 1));
        due.is("it can be undone", 1, () -> x.undo());
        due.is("not over", 0, () -> x.size(3));
    }

    private static void refusedLocks() {
        due.says("lock: Throws `IllegalArgumentException` if whyNotLock is not 0");
        CoinLadders x = Due.game("ladder 9 9 4; ladder 5 5; lock 0 4; lock 0 2; tokens 1 1 1;");
        int[][] wrong = {{-1, 1}, {2, 1}, {6, 1}, {LEAST, 1}, {GREATEST, 1}, {0, 0}, {0, -1}, {0, 10}, {0, 32}, {0, 33},
            {1, 6}, {0, LEAST}, {0, GREATEST}, {0, 2}, {0, 4}, {0, 9}};
        for (int[] each : wrong) {
            due.fails("lock(" + each[0] + ", " + each[1] + ")", ARGUMENT, () -> x.lock(each[0], each[1]));
        }
        due.is("nothing to undo", -1, () -> x.undo());
        due.is("no token is gone", 1, () -> x.player(0, 1));
        due.is("the locks are as they were", 1 << 4 | 1 << 2, () -> x.set(0, 1));
        x.lock(0, 1);
        due.failsAndLeaves("locked now", ARGUMENT, x, () -> x.lock(0, 1));
        x.claim(1);
        due.failsAndLeaves("no token", ARGUMENT, x, () -> x.lock(0, 3));
        CoinLadders y = Due.game("ladder 2 1; tokens 9 9 9;");
        y.step(0, 1, 1);
        due.failsAndLeaves("over", ARGUMENT, y, () -> y.lock(0, 2));
    }

    private static void backCostsAToken() {
        due.says("Back (kind 3): costs a back token.");
        CoinLadders x = Due.game("ladder 12 12; tokens 3 3 2;");
        x.step(0, 12, 1);
        x.back();
        due.is("1 has one left", 1, () -> x.player(1, 2));
        due.is("0 has two", 2, () -> x.player(0, 2));
        x.step(0, 12, 2);
        x.back();
        due.is("1 has none", 0, () -> x.player(1, 2));
        due.is("claims stay", 3, () -> x.player(1, 0));
        due.is("locks stay", 3, () -> x.player(1, 1));
        x.step(0, 12, 3);
        due.fails("no token", STATE, () -> x.back());
        x.step(0, 9, 3);
        due.is("0 has one: the sum with the coin at 9", 1, () -> x.back());
    }

    private static void whereItWas() {
        due.says("If the latest act is a step, the coin goes back to where it was;");
        CoinLadders x = Due.game("ladder 12 12 1 steps 12 1 5; ladder 7 7; lock 0 12; tokens 1 1 9;");
        int[][] steps = {{0, 12, 12}, {0, 12, 1}, {0, 12, 5}, {0, 1, 1}, {1, 7, 3}};
        int sum = x.sum();
        for (int[] each : steps) {
            x.step(each[0], each[1], each[2]);
            due.is("the sum behind it", sum, () -> x.back());
            due.is("the coins of 0", 1 << 12 | 1 << 1, () -> x.set(0, 0));
            due.is("the coins of 1", 1 << 7, () -> x.set(1, 0));
            due.is("none on the ground", 0, () -> x.ladder(0, 2));
        }
        due.is("ten acts", 10, () -> x.size(2));
        due.is("five steps of 0", 5, () -> x.player(0, 3));
        due.is("their sizes", 12 + 1 + 5 + 1 + 3, () -> x.player(0, 4));
        x.play(1);
        due.is("a step of play goes back, too", sum, () -> x.back());
    }

    private static void bannedForOneAct() {
        due.says("the same step (the same ladder, height and size) is banned for the next act, and for that one alone");
        for (int kind = 0; kind < 4; kind++) {
            CoinLadders x = Due.game("ladder 9 9; ladder 9 9; tokens 9 9 9;");
            x.step(0, 9, 2);
            x.back();
            due.fails("the next act", ARGUMENT, () -> x.step(0, 9, 2));
            switch (kind) {
                case 0: x.step(1, 9, 2); break;
                case 1: x.claim(1); break;
                case 2: x.lock(0, 6); break;
                default: x.play(1); x.back(); break;
            }
            due.is("the act behind it, case " + kind, 0, () -> x.whyNotStep(0, 9, 2));
        }
        CoinLadders y = Due.game("ladder 9 9; tokens 1 1 2;");
        y.step(0, 9, 2);
        y.back();
        y.step(0, 9, 1);
        y.back();
        due.is("the newer one is banned", 9, () -> y.whyNotStep(0, 9, 1));
        due.is("the older one is not", 0, () -> y.whyNotStep(0, 9, 2));
    }

    private static void banIsOnlyOfABack() {
        due.says("it must not be the banned one");
        CoinLadders x = Due.game("ladder 9 9; tokens 1 1 1;");
        x.step(0, 9, 2);
        x.undo();
        due.is("undo bans nothing", 0, () -> x.whyNotStep(0, 9, 2));
        x.step(0, 9, 2);
        x.back();
        x.saveSnapshot(0);
        x.undo();
        due.is("the ban is undone", 3, () -> x.whyNotStep(0, 9, 2));
        x.restoreSnapshot(0);
        due.is("the ban is restored", 9, () -> x.whyNotStep(0, 9, 2));
        x.claim(0);
        due.is("ended", 8, () -> x.whyNotStep(0, 9, 2));
        x.undo();
        due.is("undo brings it back", 9, () -> x.whyNotStep(0, 9, 2));
        due.is("a new game has none", 0, () -> {
            Due.parse(x, "ladder 9 9;");
            return x.whyNotStep(0, 9, 2);
        });
    }

    private static void backBehindTheEnd() {
        due.says("(A step can also be taken back if the game is over.)");
        CoinLadders x = Due.game("ladder 3 3 steps 3; ladder 1 1; tokens 1 1 1;");
        x.step(0, 3, 3);
        x.step(1, 1, 1);
        due.is("1 has won", 1, () -> x.size(4));
        due.is("the sum behind it", 1, () -> x.back());
        due.is("nobody has won", -1, () -> x.size(4));
        due.is("1 has to act", 1, () -> x.size(1));
        due.is("the only step is banned", 9, () -> x.whyNotStep(1, 1, 1));
        due.is("1 has to pass", 0, () -> x.pass());
        due.is("0 can make it", 0, () -> x.step(1, 1, 1));
        due.is("0 has won", 0, () -> x.size(4));
    }

    private static void refusedBacks() {
        due.says("Throws `IllegalStateException` if whyNotBack is not 0");
        CoinLadders x = Due.game("ladder 9 9; ladder 9 9; tokens 9 9 1;");
        due.failsAndLeaves("no act", STATE, x, () -> x.back());
        x.step(0, 9, 1);
        x.back();
        due.fails("a back", STATE, () -> x.back());
        x.claim(1);
        due.fails("a claim", STATE, () -> x.back());
        x.lock(0, 1);
        due.fails("a lock", STATE, () -> x.back());
        x.step(0, 9, 1);
        due.failsAndLeaves("no token", STATE, x, () -> x.back());
        CoinLadders y = Due.game("ladder 1 1;");
        y.claim(0);
        y.pass();
        due.failsAndLeaves("a pass", STATE, y, () -> y.back());
        due.fails("a new object", STATE, () -> new CoinLadders().back());
        CoinLadders z = Due.game("ladder 1 1; tokens 0 0 0;");
        z.step(0, 1, 1);
        due.failsAndLeaves("over, no token", STATE, z, () -> z.back());
    }

    private static void passOnlyIfNone() {
        due.says("Pass (kind 4): only if none of the steps that can be made on ladders is allowed to the player");
        CoinLadders x = Due.game("ladder 2 2; ladder 5 5 steps 6; tokens 1 0 1;");
        due.fails("steps are allowed", STATE, () -> x.pass());
        x.claim(0);
        due.is("none is allowed to 1", 0, () -> x.pass());
        due.is("counted", 1, () -> x.player(1, 5));
        due.is("the kind", 4, () -> x.act(0, 0));
        due.fails("0 has the ladder", STATE, () -> x.pass());
        x.step(0, 2, 1);
        due.is("1 again", 0, () -> x.pass());
        due.is("counted twice", 2, () -> x.player(1, 5));
        due.is("four changes", 4, () -> x.size(5));
        due.is("undone", 3, () -> x.undo());
        due.is("counted once", 1, () -> x.player(1, 5));
        due.is("1 has to act", 1, () -> x.size(1));
    }

    private static void passBecauseOfTheBan() {
        due.says("(because of claims or of the ban)");
        CoinLadders x = Due.game("ladder 3 3 steps 3; ladder 9 9; tokens 1 1 1;");
        x.claim(1);
        x.step(0, 3, 3);
        x.back();
        due.is("one is banned, three are claimed", 0, () -> x.allowed());
        due.is("0 has to act behind the pass", 0, () -> x.pass());
        due.is("1 has passed", 1, () -> x.act(0, 1));
        due.is("no ban any more", 0, () -> x.whyNotStep(0, 3, 3));
        due.is("no claim any more", -1, () -> x.ladder(1, 4));
    }

    private static void refusedPasses() {
        due.says("Throws `IllegalStateException` if the game is over, or a step is allowed");
        CoinLadders x = Due.game("ladder 3 3;");
        due.failsAndLeaves("a step is allowed", STATE, x, () -> x.pass());
        x.step(0, 3, 3);
        due.failsAndLeaves("over", STATE, x, () -> x.pass());
        due.fails("over from the beginning", STATE, () -> Due.game("ladder 5 5 steps 6;").pass());
        due.fails("a new object", STATE, () -> new CoinLadders().pass());
        CoinLadders y = Due.game("ladder 3 3 steps 3; ladder 1 1;");
        y.claim(0);
        due.fails("one step alone is allowed", STATE, () -> y.pass());
    }

    private static void playMakesTheBestStep() {
        due.says("each makes the step best()");
        String[] texts = {"ladder 12 7;", "ladder 12 9; ladder 12 7; ladder 12 6 5;", "ladder 3 3; ladder 12 12 10 8 steps 1 4 5 6;",
            "ladder 12 11; ladder 12 6; lock 0 10; lock 1 5; first 1;"};
        for (String text : texts) {
            CoinLadders x = Due.game(text);
            int best = x.best();
            due.isTrue("there is a best one in " + text, best >= 0);
            int[] want = {x.choice(best, 0), x.choice(best, 1), x.choice(best, 2)};
            due.is("one act", 1, () -> x.play(1));
            lastStepIs(x, want);
            due.is("the sum", 0, () -> x.sum());
        }
    }

    private static void playMakesTheFirstStep() {
        due.says("the first allowed step without one");
        CoinLadders x = Due.game("ladder 12 8; ladder 12 4; tokens 1 1 1;");
        due.is("no best one", -1, () -> x.best());
        x.play(1);
        lastStepIs(x, new int[] {0, 8, 1});
        x.back();
        due.is("still none", -1, () -> x.best());
        x.play(1);
        // 8 to 7 is banned
        lastStepIs(x, new int[] {0, 8, 2});
        CoinLadders y = Due.game("ladder 12 8; ladder 12 4; tokens 1 1 1;");
        y.claim(0);
        y.play(1);
        // ladder 0 is the other's
        lastStepIs(y, new int[] {1, 4, 1});
    }

    private static void lastStepIs(CoinLadders x, int[] want) {
        due.is("a step", 0, () -> x.act(0, 0));
        for (int i = 0; i < 3; i++) {
            int what = i;
            due.is("part " + what + " of the step", want[what], () -> x.act(0, 2 + what));
        }
    }

    private static void playPasses() {
        due.says("and passes if none is allowed");
        CoinLadders x = Due.game("ladder 9 9 steps 9; tokens 1 1 1;");
        x.claim(0);
        due.is("a pass and a step", 2, () -> x.play(60));
        due.is("the pass", 4, () -> x.act(1, 0));
        due.is("the step", 0, () -> x.act(0, 0));
        due.is("counted", 1, () -> x.player(1, 5));
        due.is("over", 1, () -> x.size(3));
        CoinLadders y = Due.game("ladder 9 9 steps 9; tokens 1 1 1;");
        y.step(0, 9, 9);
        y.back();
        due.is("one pass", 1, () -> y.play(1));
        due.is("because of the ban", 4, () -> y.act(0, 0));
        due.is("not over", 0, () -> y.size(3));
    }

    private static void playEndsEarlier() {
        due.says("It ends earlier if the game is over.");
        due.is("from the beginning", 0, () -> new CoinLadders().play(60));
        CoinLadders x = Due.game("ladder 3 3 steps 1;");
        due.is("three of four", 3, () -> x.play(4));
        due.is("acts", 3, () -> x.size(2));
        due.is("none of one", 0, () -> x.play(1));
        due.is("acts still", 3, () -> x.size(2));
        due.is("each is one change", 2, () -> x.size(5));
        due.is("the one without acts is undone", 1, () -> x.undo());
        due.is("acts still", 3, () -> x.size(2));
        due.is("the other one is undone", 0, () -> x.undo());
        due.is("no acts", 0, () -> x.size(2));
        due.is("just as many", 3, () -> x.play(3));
    }

    private static void playsNumberOfActs() {
        due.says("Returns the number of acts that were made.");
        String two = "ladder 12 12 11 10 steps 1;ladder 12 12 11 10 steps 1;";
        for (int acts = 1; acts <= 60; acts++) {
            int made = acts;
            CoinLadders x = Due.game(two);
            due.is("play(" + made + ")", made, () -> x.play(made));
            due.is("acts", made, () -> x.size(2));
            due.is("one change", 1, () -> x.size(5));
            due.is("who has to act", made % 2, () -> x.size(1));
            due.is("steps", made, () -> x.player(0, 3) + x.player(1, 3));
            due.is("undone at once", 0, () -> x.undo());
            due.is("no acts", 0, () -> x.size(2));
        }
        CoinLadders y = Due.game(two);
        y.play(60);
        due.is("what is left of 66", 6, () -> y.play(60));
    }

    private static void refusedPlays() {
        due.says("play: Throws `IllegalArgumentException` if acts is out of range");
        int[] wrong = {0, -1, 61, 100, LEAST, GREATEST};
        CoinLadders x = Due.game("ladder 12 12;");
        for (int acts : wrong) {
            due.fails("play(" + acts + ")", ARGUMENT, () -> x.play(acts));
            due.fails("play(" + acts + ") when over", ARGUMENT, () -> new CoinLadders().play(acts));
        }
        due.failsAndLeaves("play(61)", ARGUMENT, x, () -> x.play(61));
        due.is("nothing to undo", -1, () -> x.undo());
        due.is("no acts", 0, () -> x.size(2));
    }

    private static void lastPlayerWins() {
        due.says("the game is over, and the player who would have to act has lost");
        String[] texts = {"ladder 12 7;", "ladder 12 8;", "ladder 12 12 11 10; ladder 5 5;", "first 1; ladder 9 9; ladder 9 9;"};
        for (String text : texts) {
            CoinLadders x = Due.game(text);
            int first = x.size(1);
            int winner = x.sum() != 0 ? first : 1 - first;
            x.play(60);
            due.is("over: " + text, 1, () -> x.size(3));
            due.is("who has won: " + text, winner, () -> x.size(4));
            due.is("who would have to act: " + text, 1 - winner, () -> x.size(1));
        }
    }
}
