/** Promises 9 to 15: valueOf, sum, stepsOn, longest, positions, meanValue and isRight. */
public final class ValuesTest {
    private static final Due due = new Due("ValuesTest");

    public static void main(String[] args) {
        valueOf();
        valueOfWithLocks();
        valueOfSeveralCoins();
        wrongCoins();
        sum();
        stepsOn();
        longest();
        positions();
        meanValue();
        isRight();
        sixLadders();
        longSteps();
        noSuchLadder();
        due.end();
    }

    private static void valueOf() {
        CoinLadders x = Due.game("ladder 12 1; ladder 12 12 steps 12 5;");
        for (int height = 0; height <= 12; height++) {
            int coins = height == 0 ? 0 : 1 << height;
            due.is("one coin at " + height, height % 4, () -> x.valueOf(0, coins));
            int want = height < 5 ? 0 : height < 10 ? 1 : height < 12 ? 0 : 2;
            due.is("steps 5 and 12 from " + height, want, () -> x.valueOf(1, coins));
        }
        due.is("nothing has moved", 2, () -> x.set(0, 0));
    }

    private static void valueOfWithLocks() {
        CoinLadders x = Due.game("ladder 5 5; lock 0 3;");
        int[] want = {0, 1, 2, 3, 0, 1};
        for (int height = 0; height <= 5; height++) {
            int coins = 1 << height & ~1;
            due.is("3 is locked, coin at " + height, want[height], () -> x.valueOf(0, coins));
        }
        x.lock(0, 2);
        // 4 can go to 1 alone, 5 to 4 alone
        int[] then = {0, 1, 2, 2, 0, 1};
        for (int height = 0; height <= 5; height++) {
            int coins = 1 << height & ~1;
            due.is("2 and 3 are locked, coin at " + height, then[height], () -> x.valueOf(0, coins));
        }
        x.undo();
        due.is("2 is free again", 3, () -> x.valueOf(0, 1 << 3));
    }

    private static void valueOfSeveralCoins() {
        CoinLadders x = Due.game("ladder 3 1 2 3 steps 1;");
        due.is("{1}", 1, () -> x.valueOf(0, 2));
        due.is("{2}", 0, () -> x.valueOf(0, 4));
        due.is("{3}", 1, () -> x.valueOf(0, 8));
        // to {2} alone
        due.is("{1, 2}", 1, () -> x.valueOf(0, 6));
        // to {3} or {1, 2}
        due.is("{1, 3}", 0, () -> x.valueOf(0, 10));
        // to {1, 3} alone
        due.is("{2, 3}", 1, () -> x.valueOf(0, 12));
        // to {2, 3} alone
        due.is("{1, 2, 3}", 0, () -> x.valueOf(0, 14));
        CoinLadders y = Due.game("ladder 3 3 2 steps 2;");
        // passes over the coin between: to {2, 1}, of value 1, or to {3}, of value 1
        due.is("{2, 3}", 0, () -> y.valueOf(0, 12));
    }

    private static void wrongCoins() {
        CoinLadders x = Due.game("ladder 5 5 4; ladder 12 1; ladder 1 1;");
        // {1, 2} leads to {2}, of value 2, or to {1}, of value 1
        due.is("two coins", 0, () -> x.valueOf(0, 2 | 4));
        due.fails("three of two coins", IllegalArgumentException.class, () -> x.valueOf(0, 14));
        due.fails("two of one coin", IllegalArgumentException.class, () -> x.valueOf(1, 6));
        due.fails("the ground", IllegalArgumentException.class, () -> x.valueOf(0, 1));
        due.fails("the ground, too", IllegalArgumentException.class, () -> x.valueOf(0, 3));
        due.fails("above the top", IllegalArgumentException.class, () -> x.valueOf(0, 64));
        due.fails("above 12", IllegalArgumentException.class, () -> x.valueOf(1, 1 << 13));
        due.fails("above 1", IllegalArgumentException.class, () -> x.valueOf(2, 4));
        due.fails("least", IllegalArgumentException.class, () -> x.valueOf(1, Integer.MIN_VALUE));
        due.fails("-1", IllegalArgumentException.class, () -> x.valueOf(1, -1));
        due.is("the top", 1, () -> x.valueOf(2, 2));
        due.is("at 12", 0, () -> x.valueOf(1, 1 << 12));
        due.fails("no ladder, and wrong coins", IndexOutOfBoundsException.class, () -> x.valueOf(3, 1));
    }

    private static void sum() {
        due.is("no ladders", 0, () -> new CoinLadders().sum());
        CoinLadders x = Due.game("ladder 12 3; ladder 12 6; ladder 12 5; tokens 1 1 1;");
        due.is("3 ^ 2 ^ 1", 0, () -> x.sum());
        x.step(0, 3, 1);
        due.is("2 ^ 2 ^ 1", 1, () -> x.sum());
        x.claim(1);
        due.is("claims play no part", 1, () -> x.sum());
        x.lock(1, 4);
        // 4 is locked: 5 goes to 3 or 2, value 0; 6 goes to 5 or 3, value 1; the coin at 5 of ladder 2 keeps 1
        due.is("2 ^ 1 ^ 1", 2, () -> x.sum());
    }

    private static void stepsOn() {
        CoinLadders x = Due.game("ladder 12 12; ladder 5 5 4 2; ladder 3 1 2 3 steps 4; ladder 6 6 steps 2 3 6 7; lock 3 4;");
        due.is("one coin", 3, () -> x.stepsOn(0));
        // 5 to 3; 4 to 3 and 1; 2 to 1 and 0
        due.is("three coins", 5, () -> x.stepsOn(1));
        due.is("none", 0, () -> x.stepsOn(2));
        due.is("one is locked, one below the ground", 2, () -> x.stepsOn(3));
        x.claim(0);
        due.is("claims play no part", 3, () -> x.stepsOn(0));
        x.step(1, 2, 2);
        x.back();
        due.is("bans play no part", 5, () -> x.stepsOn(1));
    }

    private static void longest() {
        CoinLadders x = Due.game("ladder 12 12 11 10; ladder 5 5 steps 2; ladder 2 1 2 steps 1; ladder 12 12 steps 5; ladder 2 1 steps 2;");
        due.is("three coins", 33, () -> x.longest(0));
        due.is("5, 3, 1", 2, () -> x.longest(1));
        due.is("1 gives way to 2", 3, () -> x.longest(2));
        due.is("12, 7, 2", 2, () -> x.longest(3));
        due.is("none", 0, () -> x.longest(4));
        CoinLadders y = Due.game("ladder 5 5 steps 1 3; lock 0 4; lock 0 1;");
        // 5 to 2 alone; 2 to 1 is locked
        due.is("locks", 1, () -> y.longest(0));
    }

    private static void positions() {
        CoinLadders x = Due.game("ladder 12 12 11 10; ladder 5 5 steps 2; ladder 2 1 2 steps 1; ladder 2 1 steps 2; ladder 4 4 3 steps 4;");
        // {12,11,10} can come to every set of at most three heights
        due.is("all of three coins", 299, () -> x.positions(0));
        due.is("5, 3, 1", 3, () -> x.positions(1));
        due.is("{1,2}, {2}, {1}, {}", 4, () -> x.positions(2));
        due.is("the present one alone", 1, () -> x.positions(3));
        due.is("{4,3}, {3}", 2, () -> x.positions(4));
        x.step(1, 5, 2);
        due.is("3, 1", 2, () -> x.positions(1));
        CoinLadders y = Due.game("ladder 5 5; lock 0 4; lock 0 3;");
        due.is("locks", 4, () -> y.positions(0));
    }

    private static void meanValue() {
        CoinLadders x = Due.game("ladder 2 2; ladder 2 2 steps 1; ladder 2 1 2 steps 1; ladder 2 1 steps 2; ladder 9 9;");
        due.isDouble("2, 1, 0", 1.0, () -> x.meanValue(0));
        due.isDouble("0, 1, 0", 1.0 / 3, () -> x.meanValue(1));
        due.isDouble("1, 0, 1, 0", 0.5, () -> x.meanValue(2));
        due.isDouble("0 alone", 0.0, () -> x.meanValue(3));
        due.isDouble("9 to 0", 13.0 / 10, () -> x.meanValue(4));
        x.lock(4, 8);
        // without 8 (value 0); 9 goes to 7 and 6, value 0 instead of 1
        due.isDouble("9, 7 to 0", 12.0 / 9, () -> x.meanValue(4));
    }

    private static void isRight() {
        CoinLadders x = Due.game("ladder 12 12 7 3; ladder 9 9 8 steps 9 2 4; lock 0 5; lock 1 1; tokens 3 3 3;");
        due.is("at first", 1, () -> x.isRight() ? 1 : 0);
        x.lock(0, 1);
        due.is("behind a lock", 1, () -> x.isRight() ? 1 : 0);
        for (int i = 0; i < 40; i++) {
            x.play(1);
            due.is("behind an act", 1, () -> x.isRight() ? 1 : 0);
        }
    }

    private static void sixLadders() {
        CoinLadders x = Due.game("ladder 1 1;ladder 2 2;ladder 3 3;ladder 4 4;ladder 5 5;ladder 6 6;");
        due.is("1 ^ 2 ^ 3 ^ 0 ^ 1 ^ 2", 3, () -> x.sum());
        due.is("all are right", 1, () -> x.isRight() ? 1 : 0);
        due.is("1 + 2 + 3 + 3 + 3 + 3", 15, () -> x.allowed());
        due.is("not over", 0, () -> x.size(3));
        due.is("the last ladder", 5, () -> x.choice(14, 0));
        due.is("all acts", 1, () -> x.play(60) > 5 ? 1 : 0);
        due.is("over", 1, () -> x.size(3));
        due.is("no sum", 0, () -> x.sum());
    }

    private static void longSteps() {
        CoinLadders x = Due.game("ladder 12 12 steps 12; ladder 12 11 12 steps 11 12;");
        due.is("one step of 12", 1, () -> x.stepsOn(0));
        // 12 to 1 and to 0; 11 to 0
        due.is("three long steps", 3, () -> x.stepsOn(1));
        due.is("the value of 12", 1, () -> x.ladder(0, 3));
        due.is("not over", 0, () -> x.size(3));
        due.is("the longest", 1, () -> x.longest(0));
        // {12,11}, {11,1}, {11}, {12}, {1}, {}
        due.is("positions", 6, () -> x.positions(1));
    }

    private static void noSuchLadder() {
        CoinLadders x = Due.game("ladder 5 5; ladder 5 5;");
        int[] no = {-1, 2, 5, 6, Integer.MIN_VALUE, Integer.MAX_VALUE};
        for (int ladder : no) {
            due.fails("valueOf(" + ladder + ", 0)", IndexOutOfBoundsException.class, () -> x.valueOf(ladder, 0));
            due.fails("stepsOn(" + ladder + ")", IndexOutOfBoundsException.class, () -> x.stepsOn(ladder));
            due.fails("longest(" + ladder + ")", IndexOutOfBoundsException.class, () -> x.longest(ladder));
            due.fails("positions(" + ladder + ")", IndexOutOfBoundsException.class, () -> x.positions(ladder));
            due.fails("meanValue(" + ladder + ")", IndexOutOfBoundsException.class, () -> (long) x.meanValue(ladder));
        }
    }
}
