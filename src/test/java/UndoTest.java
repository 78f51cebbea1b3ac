/** Promises 29 to 31: undo, saveSnapshot and restoreSnapshot. */
public final class UndoTest {
    private static final Due due = new Due("UndoTest");
    private static final String TEXT = "ladder 12 12; ladder 12 11 6; tokens 9 9 9;";
    private static final int ACTS = 12;

    public static void main(String[] args) {
        undoOfEachAct();
        undoOfAPass();
        undoOfMany();
        onlyTenChanges();
        undoBringsTheLogBack();
        savingAndRestoring();
        inPlaceOfAnOlderOne();
        snapshotsAreCopies();
        noSuchSlot();
        snapshotsAndUndo();
        due.end();
    }

    private static void act(CoinLadders x, int number) {
        switch (number % 6) {
            case 0: x.step(x.choice(0, 0), x.choice(0, 1), x.choice(0, 2)); break;
            case 1: x.back(); break;
            case 2: x.claim(0); break;
            case 3: x.play(3); break;
            case 4: x.lock(1, 1 + number / 6); break;
            default: x.play(1); break;
        }
    }

    private static CoinLadders behind(int acts) {
        CoinLadders x = Due.game(TEXT);
        for (int i = 0; i < acts; i++) {
            act(x, i);
        }
        return x;
    }

    private static String lookBehind(int acts) {
        return Look.atState(behind(acts));
    }

    private static void undoOfEachAct() {
        CoinLadders fresh = Due.game(TEXT);
        due.is("nothing to undo", -1, () -> fresh.undo());
        for (int i = 0; i < ACTS; i++) {
            CoinLadders x = behind(i + 1);
            int kept = Math.min(i, 9);
            due.is("changes behind act " + i, kept + 1, () -> x.size(5));
            due.isTrue("act " + i + " changes the look", !Look.atState(x).equals(lookBehind(i)));
            due.is("undo of act " + i, kept, () -> x.undo());
            due.isTrue("the look before act " + i, Look.atState(x).equals(lookBehind(i)));
            act(x, i);
            due.isTrue("the look behind act " + i, Look.atState(x).equals(lookBehind(i + 1)));
        }
    }

    private static void undoOfAPass() {
        CoinLadders x = Due.game("ladder 1 1;");
        x.claim(0);
        String before = Look.atState(x);
        x.pass();
        due.is("one is left", 1, () -> x.undo());
        due.isTrue("the look before a pass", Look.atState(x).equals(before));
    }

    private static void undoOfMany() {
        for (int i = 2; i < ACTS; i++) {
            CoinLadders x = behind(ACTS);
            for (int left = ACTS - 1; left >= i; left--) {
                int still = left - 2;
                due.is("changes left", still, () -> x.undo());
            }
            due.isTrue("undone to act " + i, Look.atState(x).equals(lookBehind(i)));
        }
        CoinLadders y = behind(3);
        y.undo();
        y.undo();
        y.undo();
        due.is("none left", -1, () -> y.undo());
        due.isTrue("the first look stays", Look.atState(y).equals(lookBehind(0)));
        act(y, 0);
        due.is("a change behind undo", 1, () -> y.size(5));
        due.is("it can be undone", 0, () -> y.undo());
    }

    private static void onlyTenChanges() {
        CoinLadders x = Due.game("ladder 12 12 steps 1;");
        for (int height = 12; height > 0; height--) {
            x.step(0, height, 1);
        }
        due.is("ten of twelve", 10, () -> x.size(5));
        for (int i = 9; i >= 0; i--) {
            int left = i;
            due.is("left", left, () -> x.undo());
        }
        due.is("no more", -1, () -> x.undo());
        due.is("two acts", 2, () -> x.size(2));
        due.is("the coin lies at 10", 1 << 10, () -> x.set(0, 0));
    }

    private static void undoBringsTheLogBack() {
        CoinLadders x = Due.game("ladder 12 12 steps 1; ladder 12 12 steps 1;");
        for (int height = 12; height > 0; height--) {
            x.step(0, height, 1);
        }
        for (int height = 12; height > 8; height--) {
            x.step(1, height, 1);
        }
        x.play(8);
        x.undo();
        for (int i = 0; i < 12; i++) {
            int k = 15 - i;
            int height = 12 - i;
            due.is("old height", height, () -> x.act(k, 3));
        }
    }

    private static void savingAndRestoring() {
        CoinLadders x = behind(0);
        due.is("slot 0 is empty", 0, () -> x.restoreSnapshot(0) ? 1 : 0);
        due.is("slot 1 is empty", 0, () -> x.restoreSnapshot(1) ? 1 : 0);
        due.is("save", 1, () -> x.saveSnapshot(0) ? 1 : 0);
        due.is("slot 1 is still empty", 0, () -> x.restoreSnapshot(1) ? 1 : 0);
        act(x, 0);
        act(x, 1);
        due.is("save the other", 1, () -> x.saveSnapshot(1) ? 1 : 0);
        due.is("saving is no change", 2, () -> x.size(5));
        for (int i = 2; i < 8; i++) {
            act(x, i);
        }
        due.is("restore 0", 1, () -> x.restoreSnapshot(0) ? 1 : 0);
        due.isTrue("the first look", Look.atState(x).equals(lookBehind(0)));
        due.is("no history", 0, () -> x.size(5));
        due.is("no undo", -1, () -> x.undo());
        due.is("restore 1", 1, () -> x.restoreSnapshot(1) ? 1 : 0);
        due.isTrue("the second look, with its ban", Look.atState(x).equals(lookBehind(2)));
    }

    private static void inPlaceOfAnOlderOne() {
        CoinLadders x = behind(2);
        x.saveSnapshot(1);
        act(x, 2);
        x.saveSnapshot(1);
        act(x, 3);
        act(x, 4);
        due.is("restore", 1, () -> x.restoreSnapshot(1) ? 1 : 0);
        due.isTrue("the newer look", Look.atState(x).equals(lookBehind(3)));
    }

    private static void snapshotsAreCopies() {
        CoinLadders x = behind(5);
        x.saveSnapshot(0);
        for (int round = 0; round < 2; round++) {
            for (int i = 5; i < ACTS; i++) {
                act(x, i);
            }
            due.is("the snapshot has stayed", 1, () -> x.restoreSnapshot(0) ? 1 : 0);
            due.isTrue("acts do not reach into a slot", Look.atState(x).equals(lookBehind(5)));
        }
    }

    private static void noSuchSlot() {
        CoinLadders x = behind(1);
        x.saveSnapshot(0);
        x.saveSnapshot(1);
        act(x, 1);
        int[] no = {-1, 2, 3, Integer.MIN_VALUE, Integer.MAX_VALUE};
        for (int slot : no) {
            due.is("saveSnapshot(" + slot + ")", 0, () -> x.saveSnapshot(slot) ? 1 : 0);
            due.is("restoreSnapshot(" + slot + ")", 0, () -> x.restoreSnapshot(slot) ? 1 : 0);
        }
        due.isTrue("nothing changed", Look.atState(x).equals(lookBehind(2)));
        due.is("the history stays", 2, () -> x.size(5));
        CoinLadders y = behind(1);
        due.is("empty slot", 0, () -> y.restoreSnapshot(1) ? 1 : 0);
        due.is("the history stays with an empty slot", 1, () -> y.size(5));
    }

    private static void snapshotsAndUndo() {
        CoinLadders x = behind(1);
        x.saveSnapshot(0);
        x.undo();
        due.isTrue("undo does not touch slots", x.restoreSnapshot(0) && Look.atState(x).equals(lookBehind(1)));
        act(x, 1);
        due.is("one change behind restoring", 0, () -> x.undo());
        due.isTrue("the restored look", Look.atState(x).equals(lookBehind(1)));
    }
}
