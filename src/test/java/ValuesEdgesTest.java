/** Promises 9 to 15: each sentence of the document that names a boundary case of ladders and values has a method here. */
public final class ValuesEdgesTest {
    private static final Due due = new Due("ValuesEdgesTest");
    private static final Class<IllegalArgumentException> ARGUMENT = IllegalArgumentException.class;
    private static final Class<IndexOutOfBoundsException> INDEX = IndexOutOfBoundsException.class;
    private static final int LEAST = Integer.MIN_VALUE;
    private static final int GREATEST = Integer.MAX_VALUE;

    public static void main(String[] args) {
        notBelowTheGround();
        notToALock();
        notToACoin();
        overWhatIsBetween();
        fromALock();
        smallestMissing();
        zeroWithoutSteps();
        sumOfAll();
        noPartInValues();
        otherCoinsOnTheGround();
        withTheLocks();
        withTheLocksOfTheMoment();
        valueOfNoLadder();
        wrongCoins();
        valueChangesNothing();
        whateverIsClaimed();
        neverTheSameStep();
        stepsOnNoLadder();
        longest();
        positions();
        meanValue();
        isRight();
        behindAnotherText();
        due.end();
    }

    private static void notBelowTheGround() {
        due.says("to a height that is not below the ground");
        for (int height = 1; height <= 12; height++) {
            for (int size = 1; size <= 12; size++) {
                int can = size <= height ? 1 : 0;
                CoinLadders x = Due.game("ladder 12 " + height + " steps " + size + ";");
                due.is("steps from " + height + " by " + size, can, () -> x.stepsOn(0));
                due.is("its value", height / size % 2, () -> x.ladder(0, 3));
                due.is("the longest", height / size, () -> x.longest(0));
                due.is("the positions", height / size + 1, () -> x.positions(0));
            }
        }
    }

    private static void notToALock() {
        due.says("that is not locked");
        for (int lock = 1; lock <= 12; lock++) {
            CoinLadders x = Due.game("ladder 12 12 steps 11 12 1 6; lock 0 " + lock + ";");
            boolean stops = lock == 1 || lock == 11 || lock == 6;
            due.is("12 with a lock at " + lock, stops ? 3 : 4, () -> x.stepsOn(0));
        }
        CoinLadders y = Due.game("ladder 2 2; lock 0 1;");
        due.is("the ground alone", 1, () -> y.stepsOn(0));
        due.is("value with the ground alone", 1, () -> y.ladder(0, 3));
    }

    private static void notToACoin() {
        due.says("and, if it is above the ground, at which no coin lies");
        CoinLadders x = Due.game("ladder 12 12 11 10;");
        // 12: 9; 11: 9, 8; 10: 9, 8, 7
        due.is("close together", 6, () -> x.stepsOn(0));
        CoinLadders y = Due.game("ladder 3 1 2 3;");
        // 3: 0; 2: 0; 1: 0
        due.is("to the ground", 3, () -> y.stepsOn(0));
        y.step(0, 2, 2);
        // 3: 2, 0; 1: 0
        due.is("to the ground, where one lies", 3, () -> y.stepsOn(0));
        y.step(0, 3, 3);
        due.is("to the ground, where two lie", 1, () -> y.stepsOn(0));
        y.step(0, 1, 1);
        due.is("three on the ground", 3, () -> y.ladder(0, 2));
        due.is("none from the ground", 0, () -> y.stepsOn(0));
    }

    private static void overWhatIsBetween() {
        due.says("(it passes over coins and locked heights between)");
        CoinLadders x = Due.game("ladder 12 12 11 10 steps 4; lock 0 9;");
        due.is("over coins and a lock", 3, () -> x.stepsOn(0));
        due.is("from 12 to 8", 0, () -> x.whyNotStep(0, 12, 4));
        x.step(0, 12, 4);
        due.is("it is there", 1 << 11 | 1 << 10 | 1 << 8, () -> x.set(0, 0));
        CoinLadders y = Due.game("ladder 3 3 2 1 steps 3; lock 0 2; lock 0 1;");
        due.is("over both to the ground", 1, () -> y.stepsOn(0));
        due.is("its value", 1, () -> y.ladder(0, 3));
    }

    private static void fromALock() {
        due.says("A coin that lies at a locked height can stay there and go down from there.");
        CoinLadders x = Due.game("ladder 5 5 4; ladder 9 9; lock 0 5; lock 0 4; lock 1 9;");
        due.is("steps: 5 to 3 and 2, 4 to 3, 2 and 1", 5, () -> x.stepsOn(0));
        x.step(1, 9, 3);
        due.is("they stay", 1 << 5 | 1 << 4, () -> x.set(0, 0));
        x.step(0, 5, 2);
        due.is("one has gone down", 1 << 4 | 1 << 3, () -> x.set(0, 0));
        due.is("the locks stay", 1 << 5 | 1 << 4, () -> x.set(0, 1));
        due.is("steps: 4 to 2 and 1, 3 to 2, 1 and 0", 5, () -> x.stepsOn(0));
    }

    private static void smallestMissing() {
        due.says("the smallest number, 0 or more, that is not among the values that the ladder can have behind one step on it");
        CoinLadders x = Due.game("ladder 12 12 steps 2 5 6 9;");
        int[] want = {0, 0, 1, 1, 0, 2, 1, 3, 0, 2, 1, 0, 0};
        for (int height = 0; height <= 12; height++) {
            int coins = height == 0 ? 0 : 1 << height;
            due.is("coin at " + height, want[height], () -> x.valueOf(0, coins));
        }
        CoinLadders y = Due.game("ladder 12 12 10 8 steps 1 4 5 6;");
        due.is("the greatest value", 8, () -> y.ladder(0, 3));
        due.is("the same by valueOf", 8, () -> y.valueOf(0, 1 << 12 | 1 << 10 | 1 << 8));
        CoinLadders z = Due.game("ladder 12 12 steps 1 2 3 4;");
        for (int height = 1; height <= 12; height++) {
            int coins = 1 << height;
            int value = height % 5;
            due.is("four sizes from " + height, value, () -> z.valueOf(0, coins));
        }
    }

    private static void zeroWithoutSteps() {
        due.says("it is 0 if no step can be made on it");
        due.is("the size is too large", 0, () -> Due.game("ladder 5 5 steps 6;").ladder(0, 3));
        due.is("locked", 0, () -> Due.game("ladder 5 5 steps 1 2; lock 0 3; lock 0 4;").ladder(0, 3));
        due.is("coins below", 0, () -> Due.game("ladder 5 3 2 1 steps 4 5;").ladder(0, 3));
        CoinLadders x = Due.game("ladder 1 1; ladder 1 1;");
        due.is("one step", 1, () -> x.ladder(0, 3));
        x.step(0, 1, 1);
        due.is("on the ground", 0, () -> x.ladder(0, 3));
        due.is("no coins above the ground", 0, () -> x.valueOf(1, 0));
    }

    private static void sumOfAll() {
        due.says("The sum is the exclusive or of the values of all ladders.");
        due.is("no ladders", 0, () -> new CoinLadders().sum());
        due.is("one", 3, () -> Due.game("ladder 3 3;").sum());
        due.is("two alike", 0, () -> Due.game("ladder 3 3;ladder 3 3;").sum());
        due.is("three alike", 3, () -> Due.game("ladder 3 3;ladder 3 3;ladder 3 3;").sum());
        String six = "ladder 1 1;ladder 2 2;ladder 1 1;ladder 4 4 steps 1 2 3 4;ladder 7 7;ladder 12 12 10 8 steps 1 4 5 6;";
        due.is("1 ^ 2 ^ 1 ^ 4 ^ 3 ^ 8", 13, () -> Due.game(six).sum());
    }

    private static void noPartInValues() {
        due.says("(Claims, bans and tokens play no part in values.)");
        CoinLadders x = Due.game("ladder 12 11; ladder 12 6; tokens 2 0 2;");
        x.claim(0);
        due.is("claimed by the other", 3, () -> x.ladder(0, 3));
        x.claim(1);
        due.is("the sum of two claimed ones", 1, () -> x.sum());
        x.step(0, 11, 3);
        x.back();
        due.is("one step is banned", 3, () -> x.ladder(0, 3));
        due.is("valueOf, too", 3, () -> x.valueOf(0, 1 << 11));
        due.is("and sum", 1, () -> x.sum());
        due.is("and meanValue", Double.doubleToLongBits(18.0 / 12), () -> Double.doubleToLongBits(x.meanValue(0)));
        due.is("without tokens", 3, () -> Due.game("ladder 3 3; tokens 0 0 0;").ladder(0, 3));
    }

    private static void otherCoinsOnTheGround() {
        due.says("the other coins of the ladder would lie on the ground");
        CoinLadders x = Due.game("ladder 3 1 2 3 steps 1;");
        int[] want = {0, 0, 1, 1, 0, 0, 1, 1, 1, 1, 0, 0, 1, 1, 0};
        for (int coins = 0; coins <= 14; coins += 2) {
            int bits = coins;
            due.is("valueOf(0, " + bits + ")", want[bits], () -> x.valueOf(0, bits));
        }
        x.step(0, 1, 1);
        due.is("one that lies on the ground can lie above it", 0, () -> x.valueOf(0, 14));
        due.is("as the value is", x.ladder(0, 3), () -> x.valueOf(0, x.set(0, 0)));
    }

    private static void withTheLocks() {
        due.says("Returns the value, with the locks that there are.");
        CoinLadders x = Due.game("ladder 4 1; ladder 4 1; lock 1 1;");
        int[] free = {0, 1, 2, 3, 0};
        // 2 goes to the ground alone, 3 to 2 and the ground, 4 to 3 and 2
        int[] locked = {0, 1, 1, 2, 0};
        for (int height = 0; height <= 4; height++) {
            int h = height;
            int coins = height == 0 ? 0 : 1 << height;
            due.is("free, at " + height, free[h], () -> x.valueOf(0, coins));
            due.is("locked, at " + height, locked[h], () -> x.valueOf(1, coins));
        }
        due.is("a coin at the lock itself", 1, () -> x.valueOf(1, 2));
    }

    private static void withTheLocksOfTheMoment() {
        due.says("with the locks that there are");
        CoinLadders x = Due.game("ladder 12 4; ladder 12 4; tokens 0 9 9;");
        due.is("no locks", 3, () -> x.valueOf(0, 1 << 7));
        x.saveSnapshot(0);
        // 7 goes to 5 (1) and 4 (0)
        due.is("the value behind the lock", 0, () -> x.lock(0, 6));
        due.is("locked", 2, () -> x.valueOf(0, 1 << 7));
        due.is("not on the other ladder", 3, () -> x.valueOf(1, 1 << 7));
        x.lock(0, 5);
        // 7 goes to 4 (0)
        due.is("locked twice", 1, () -> x.valueOf(0, 1 << 7));
        x.undo();
        due.is("undone", 2, () -> x.valueOf(0, 1 << 7));
        x.undo();
        due.is("undone twice", 3, () -> x.valueOf(0, 1 << 7));
        x.lock(0, 6);
        due.is("locked again", 2, () -> x.valueOf(0, 1 << 7));
        x.restoreSnapshot(0);
        due.is("restored", 3, () -> x.valueOf(0, 1 << 7));
        due.is("isRight", 1, () -> x.isRight() ? 1 : 0);
    }

    private static void valueOfNoLadder() {
        due.says("valueOf: Throws `IndexOutOfBoundsException` if there is no such ladder (checked first)");
        CoinLadders x = Due.game("ladder 5 5;");
        int[] wrong = {-1, 1, 5, 6, LEAST, GREATEST};
        for (int ladder : wrong) {
            due.fails("valueOf(" + ladder + ", 0)", INDEX, () -> x.valueOf(ladder, 0));
            due.fails("valueOf(" + ladder + ", 1)", INDEX, () -> x.valueOf(ladder, 1));
            due.fails("valueOf(" + ladder + ", -1)", INDEX, () -> x.valueOf(ladder, -1));
        }
        due.fails("no ladders", INDEX, () -> new CoinLadders().valueOf(0, 0));
    }

    private static void wrongCoins() {
        due.says("Throws `IllegalArgumentException` if coins has a bit that is not that of a height from 1 to the top, or more "
                + "bits than the ladder has coins");
        for (int top = 1; top <= 12; top++) {
            CoinLadders x = Due.game("ladder " + top + " 1;");
            for (int bit = 0; bit < 32; bit++) {
                int coins = 1 << bit;
                String call = "valueOf(0, 1 << " + bit + ") with top " + top;
                if (bit >= 1 && bit <= top) {
                    due.is(call, bit % 4, () -> x.valueOf(0, coins));
                } else {
                    due.fails(call, ARGUMENT, () -> x.valueOf(0, coins));
                }
            }
        }
        CoinLadders y = Due.game("ladder 12 1; ladder 12 1 2; ladder 12 1 2 3;");
        int[][] bits = {{1 << 12, 1 << 12 | 2}, {1 << 12 | 2, 1 << 12 | 6}, {1 << 12 | 6, 1 << 12 | 14}};
        for (int i = 0; i < 3; i++) {
            int ladder = i;
            due.isTrue("as many as there are", y.valueOf(ladder, bits[ladder][0]) >= 0);
            due.failsAndLeaves("one more", ARGUMENT, y, () -> y.valueOf(ladder, bits[ladder][1]));
            due.fails("the ground, too", ARGUMENT, () -> y.valueOf(ladder, 3));
            due.fails("all bits", ARGUMENT, () -> y.valueOf(ladder, -1));
            due.fails("all heights", ARGUMENT, () -> y.valueOf(ladder, 8190));
            due.is("none", 0, () -> y.valueOf(ladder, 0));
        }
        y.step(2, 3, 3);
        due.is("a coin on the ground counts, too", y.valueOf(2, 14), () -> y.valueOf(2, 14));
    }

    private static void valueChangesNothing() {
        due.says("Returns the value that a ladder would have with other coins.");
        CoinLadders x = Due.game("ladder 12 12; ladder 9 9 8 7; lock 1 5;");
        String before = Look.at(x);
        x.valueOf(0, 2);
        x.valueOf(1, 1 << 4 | 1 << 5 | 1 << 6);
        x.longest(1);
        x.positions(0);
        x.meanValue(1);
        due.isTrue("looks change nothing", Look.at(x).equals(before));
        due.is("no change to undo", -1, () -> x.undo());
    }

    private static void whateverIsClaimed() {
        due.says("Returns the number of steps that can be made on it, whatever is claimed or banned");
        CoinLadders x = Due.game("ladder 12 12; ladder 2 2 steps 2;");
        x.claim(1);
        due.is("claimed by the other", 1, () -> x.stepsOn(1));
        due.is("not allowed", 3, () -> x.allowed());
        x.step(0, 12, 3);
        x.step(1, 2, 2);
        x.back();
        due.is("banned", 1, () -> x.stepsOn(1));
        due.is("still not allowed", 3, () -> x.allowed());
        due.is("longest, too", 1, () -> x.longest(1));
        due.is("positions, too", 2, () -> x.positions(1));
    }

    private static void neverTheSameStep() {
        due.says("(of two coins never the same step: they lie at different heights)");
        CoinLadders x = Due.game("ladder 12 12 8 4 steps 1 2 3 4;");
        // all of 12 and 8 but to 8 and 4; 4 to the ground, too
        due.is("three coins, four sizes", 10, () -> x.stepsOn(0));
        CoinLadders y = Due.game("ladder 12 12 8 4 steps 1 2 3 5; ladder 2 1 2 steps 1 2;");
        due.is("twelve but one below the ground", 11, () -> y.stepsOn(0));
        // 1 to the ground, 2 to the ground
        due.is("two to the ground", 2, () -> y.stepsOn(1));
        CoinLadders z = Due.game("ladder 12 12 11 10 steps 3 4 5 6;");
        due.is("twelve", 12, () -> z.stepsOn(0));
        due.is("all are allowed", 12, () -> z.allowed());
    }

    private static void stepsOnNoLadder() {
        due.says("Throws `IndexOutOfBoundsException` if there is no such ladder");
        int[] wrong = {-1, 2, 5, 6, LEAST, GREATEST};
        for (int ladder : wrong) {
            CoinLadders x = Due.game("ladder 5 5;ladder 5 5;");
            due.failsAndLeaves("stepsOn(" + ladder + ")", INDEX, x, () -> x.stepsOn(ladder));
            due.fails("longest(" + ladder + ")", INDEX, () -> x.longest(ladder));
            due.fails("positions(" + ladder + ")", INDEX, () -> x.positions(ladder));
            due.fails("meanValue(" + ladder + ")", INDEX, () -> (long) x.meanValue(ladder));
        }
        CoinLadders y = new CoinLadders();
        due.fails("stepsOn(0)", INDEX, () -> y.stepsOn(0));
        due.fails("longest(0)", INDEX, () -> y.longest(0));
        due.fails("positions(0)", INDEX, () -> y.positions(0));
        due.fails("meanValue(0)", INDEX, () -> (long) y.meanValue(0));
    }

    private static void longest() {
        due.says("Returns the greatest number of steps that could be made on it one after the other.");
        due.is("none", 0, () -> Due.game("ladder 5 5 steps 6;").longest(0));
        due.is("one", 1, () -> Due.game("ladder 12 12 steps 12;").longest(0));
        due.is("the most there can be", 33, () -> Due.game("ladder 12 12 11 10 steps 1 12;").longest(0));
        // 9 to 8 leads no further; 9, 6, 3, 2, 1, 0
        due.is("not the smallest first", 5, () -> Due.game("ladder 9 9 steps 1 3; lock 0 7; lock 0 5;").longest(0));
        due.is("not the largest first", 9, () -> Due.game("ladder 9 9 steps 1 3;").longest(0));
        // down to 7 by 1, then to 2
        due.is("a long one at last", 6, () -> Due.game("ladder 12 12 steps 1 5; lock 0 6; lock 0 1;").longest(0));
        // the coin at 1 must go first
        due.is("in the right order", 3, () -> Due.game("ladder 2 1 2 steps 1;").longest(0));
        CoinLadders x = Due.game("ladder 9 9 steps 1;");
        x.step(0, 9, 1);
        due.is("from where it is", 8, () -> x.longest(0));
        x.lock(0, 3);
        due.is("down to a lock", 4, () -> x.longest(0));
        x.undo();
        due.is("undone", 8, () -> x.longest(0));
        due.is("all coins on the ground", 0, () -> {
            CoinLadders y = Due.game("ladder 1 1;");
            y.step(0, 1, 1);
            return y.longest(0);
        });
    }

    private static void positions() {
        due.says("Returns the number of different positions of the coins of the ladder (sets of heights above the ground) that "
                + "can come by steps on it, the present one, too.");
        due.is("the present one alone", 1, () -> Due.game("ladder 5 5 steps 6;").positions(0));
        due.is("two", 2, () -> Due.game("ladder 12 12 steps 12;").positions(0));
        due.is("one coin, all heights", 13, () -> Due.game("ladder 12 12;").positions(0));
        due.is("two coins, all sets", 1 + 12 + 66, () -> Due.game("ladder 12 12 11;").positions(0));
        due.is("three coins, all sets", 1 + 12 + 66 + 220, () -> Due.game("ladder 12 12 11 10;").positions(0));
        // {2, 1}, {2}, {1} in two ways, {}
        due.is("each but once", 4, () -> Due.game("ladder 2 2 1 steps 1 2;").positions(0));
        // {3, 1}, {3}, {2, 1}, {2}, {1}, {}: not {3, 2}, above which no coin lies
        due.is("never upwards", 6, () -> Due.game("ladder 12 3 1 steps 1;").positions(0));
        due.is("a locked height stays empty", 12, () -> Due.game("ladder 12 12; lock 0 5;").positions(0));
        due.is("the present one can be at a lock", 13, () -> Due.game("ladder 12 12; lock 0 12;").positions(0));
        CoinLadders x = Due.game("ladder 12 12;");
        x.step(0, 12, 3);
        due.is("from where it is", 10, () -> x.positions(0));
        x.lock(0, 1);
        due.is("behind a lock", 9, () -> x.positions(0));
        x.undo();
        x.back();
        due.is("behind a back", 13, () -> x.positions(0));
    }

    private static void meanValue() {
        due.says("Returns the sum of the values of all these positions, converted to double, divided by their number.");
        due.isDouble("one position", 0.0, () -> Due.game("ladder 5 5 steps 6;").meanValue(0));
        due.isDouble("1 and 0", 0.5, () -> Due.game("ladder 12 12 steps 12;").meanValue(0));
        due.isDouble("0, 1, 0", 1.0 / 3, () -> Due.game("ladder 2 2 steps 1;").meanValue(0));
        due.isDouble("not a whole number", 18.0 / 13, () -> Due.game("ladder 12 12;").meanValue(0));
        CoinLadders x = Due.game("ladder 12 12 11 10 steps 1 4 5 6;");
        int total = 0;
        for (int coins = 0; coins <= 8190; coins += 2) {
            total += Integer.bitCount(coins) <= 3 ? x.valueOf(0, coins) : 0;
        }
        double mean = (double) total / 299;
        due.isDouble("all sets of three heights", mean, () -> x.meanValue(0));
        CoinLadders y = Due.game("ladder 7 7; tokens 1 1 1;");
        due.isDouble("3, 2, 1, 0, 3, 2, 1, 0", 1.5, () -> y.meanValue(0));
        y.lock(0, 3);
        // 7: 3, 6: 2, 5: 1, 4: 0, 2: 2, 1: 1, 0: 0
        due.isDouble("with a lock", 9.0 / 7, () -> y.meanValue(0));
        y.step(0, 7, 2);
        due.isDouble("from where it is", 4.0 / 5, () -> y.meanValue(0));
    }

    private static void isRight() {
        due.says("to each smaller value there is a step (it always is so)");
        due.is("no ladders", 1, () -> new CoinLadders().isRight() ? 1 : 0);
        String text = "";
        for (int ladders = 1; ladders <= 6; ladders++) {
            text = text + "ladder 12 " + (12 - ladders) + ";";
            CoinLadders y = Due.game(text);
            due.is(text, 1, () -> y.isRight() ? 1 : 0);
        }
        due.is("no steps", 1, () -> Due.game("ladder 5 5 steps 6;").isRight() ? 1 : 0);
        due.is("many values", 1, () -> Due.game("ladder 12 12 10 8 steps 1 4 5 6;").isRight() ? 1 : 0);
        CoinLadders x = Due.game("ladder 12 12 7 3; ladder 9 9 8 steps 9 2 4; ladder 1 1; lock 0 5; tokens 9 9 9;");
        for (int i = 0; i < 30; i++) {
            x.play(1);
            due.is("behind an act", 1, () -> x.isRight() ? 1 : 0);
            x.undo();
            due.is("behind undo", 1, () -> x.isRight() ? 1 : 0);
            x.play(1);
        }
        due.is("at the end", 1, () -> x.isRight() ? 1 : 0);
    }

    private static void behindAnotherText() {
        due.says("Parses the first length bytes of the input buffer as a game and replaces the current one by it.");
        String[] texts = {"ladder 12 12;", "ladder 12 12 11;", "ladder 12 12 11 10;", "ladder 12 12 11;lock 0 7;",
            "ladder 12 12 11 steps 1 2 4;", "ladder 9 9 8;", "ladder 12 9 8;", "ladder 12 12;"};
        CoinLadders x = new CoinLadders();
        for (String text : texts) {
            due.is(text, 1, () -> Due.parse(x, text));
            CoinLadders fresh = Due.game(text);
            due.is("value of " + text, fresh.ladder(0, 3), () -> x.ladder(0, 3));
            due.is("sum of " + text, fresh.sum(), () -> x.sum());
            due.is("longest of " + text, fresh.longest(0), () -> x.longest(0));
            due.is("positions of " + text, fresh.positions(0), () -> x.positions(0));
            due.isDouble("mean value of " + text, fresh.meanValue(0), () -> x.meanValue(0));
        }
    }
}
