/** Promises 29 to 31: each sentence of the document that names a boundary case of undo and snapshots has a method here. */
public final class UndoEdgesTest {
    private static final Due due = new Due("UndoEdgesTest");
    private static final Class<IllegalArgumentException> ARGUMENT = IllegalArgumentException.class;
    private static final Class<IllegalStateException> STATE = IllegalStateException.class;
    private static final int LEAST = Integer.MIN_VALUE;
    private static final int GREATEST = Integer.MAX_VALUE;
    private static final String LONG = "ladder 12 12 11 10 steps 1; ladder 12 12 steps 1; tokens 9 9 9;";

    public static void main(String[] args) {
        noneToUndo();
        eachKindOfChange();
        latestFirst();
        tenChanges();
        roundAndRound();
        undoneAndChangedAgain();
        playIsOneChange();
        whatIsNoChange();
        throwingChangesNothing();
        undoBringsTheLogBack();
        savedSlots();
        inPlaceOfWhatWasThere();
        savingIsNoChange();
        noSuchSlotToSave();
        restoringClearsTheHistory();
        staysInItsSlot();
        emptySlots();
        allThatChangesCanChange();
        snapshotsHoldTheLog();
        slotsBehindUndoAndErrors();
        due.end();
    }

    private static int save(CoinLadders x, int slot) {
        return x.saveSnapshot(slot) ? 1 : 0;
    }

    private static int restore(CoinLadders x, int slot) {
        return x.restoreSnapshot(slot) ? 1 : 0;
    }

    private static void noneToUndo() {
        due.says("NONE if there was none to undo");
        CoinLadders fresh = new CoinLadders();
        due.is("a new object", -1, () -> fresh.undo());
        due.is("again", -1, () -> fresh.undo());
        CoinLadders x = Due.game("ladder 12 12;");
        String before = Look.at(x);
        due.is("a new game", -1, () -> x.undo());
        due.isTrue("nothing changed", Look.at(x).equals(before));
        x.step(0, 12, 1);
        due.is("0 are left", 0, () -> x.undo());
        due.is("none", -1, () -> x.undo());
        due.isTrue("nothing changed behind both", Look.at(x).equals(before));
        x.step(0, 12, 2);
        due.is("one again", 0, () -> x.undo());
    }

    private static void eachKindOfChange() {
        due.says("The methods from step to play change the game if they succeed");
        for (int kind = 0; kind < 7; kind++) {
            CoinLadders x = Due.game("ladder 9 9 1; ladder 9 9 8; lock 0 4; first 1; tokens 2 2 2;");
            x.claim(0);
            x.step(1, 9, 3);
            String before = Look.at(x);
            change(x, kind);
            due.is("changes behind kind " + kind, 3, () -> x.size(5));
            due.isTrue("kind " + kind + " changes the look", !Look.at(x).equals(before));
            due.is("undo of kind " + kind, 2, () -> x.undo());
            due.isTrue("undone: kind " + kind, Look.at(x).equals(before));
        }
        CoinLadders y = Due.game("ladder 2 2; first 1; tokens 2 2 2;");
        y.claim(0);
        String before = Look.at(y);
        y.pass();
        due.is("changes behind a pass", 2, () -> y.size(5));
        due.is("undo of a pass", 1, () -> y.undo());
        due.isTrue("undone: a pass", Look.at(y).equals(before));
    }

    private static void change(CoinLadders x, int kind) {
        switch (kind) {
            case 0: x.step(0, 1, 1); break;
            case 1: x.step(1, 8, 1); break;
            case 2: x.claim(1); break;
            case 3: x.lock(0, 8); break;
            case 4: x.back(); break;
            case 5: x.play(1); break;
            default: x.play(60); break;
        }
    }

    private static void latestFirst() {
        due.says("undo: Undoes the latest change that has not been undone.");
        for (int changes = 0; changes < 9; changes++) {
            CoinLadders x = behind(9);
            for (int i = 8; i >= changes; i--) {
                int left = i;
                due.is("undo to " + left, left, () -> x.undo());
            }
            due.isTrue("as behind " + changes, Look.at(x).equals(Look.at(behind(changes))));
        }
    }

    /** Nine changes of all kinds but pass, made in their order on the long game. */
    private static void several(CoinLadders x, int number) {
        switch (number) {
            case 0: x.step(0, 10, 1); break;
            case 1: x.back(); break;
            case 2: x.claim(1); break;
            case 3: x.lock(0, 1); break;
            case 4: x.play(4); break;
            case 5: x.lock(1, 3); break;
            case 6: x.claim(0); break;
            case 7: x.play(1); break;
            default: x.back(); break;
        }
    }

    private static CoinLadders behind(int changes) {
        CoinLadders x = Due.game(LONG);
        for (int i = 0; i < changes; i++) {
            several(x, i);
        }
        return x;
    }

    private static void tenChanges() {
        due.says("The latest 10 changes can be undone, the latest first.");
        for (int changes = 1; changes <= 22; changes++) {
            CoinLadders x = Due.game(LONG);
            steps(x, 0, changes);
            int made = changes;
            int kept = Math.min(changes, 10);
            due.is("changes of " + made, kept, () -> x.size(5));
            for (int left = kept - 1; left >= 0; left--) {
                int still = left;
                due.is("still of " + made, still, () -> x.undo());
                due.is("size(5) of " + made, still, () -> x.size(5));
                due.is("acts of " + made, made - kept + still, () -> x.size(2));
            }
            due.is("no more of " + made, -1, () -> x.undo());
            due.is("acts in the end of " + made, made - kept, () -> x.size(2));
        }
    }

    /** Steps of size 1 on ladder 0, the coin at 10 first: those with the numbers from, from + 1 and so on. */
    private static void steps(CoinLadders x, int from, int count) {
        for (int i = from; i < from + count; i++) {
            x.step(0, 10 + i / 10 - i % 10, 1);
        }
    }

    private static void roundAndRound() {
        due.says("undo: Returns the number of changes that can still be undone;");
        CoinLadders x = Due.game(LONG);
        int made = 0;
        for (int round = 0; round < 6; round++) {
            steps(x, made, 7);
            made += 7;
            for (int i = 0; i < 4; i++) {
                int left = Math.min(10, round * 3 + 7) - 1 - i;
                due.is("left in round " + round, left, () -> x.undo());
                made--;
                int acts = made;
                due.is("acts in round " + round, acts, () -> x.size(2));
            }
            if (round > 1) {
                // ten were kept, four are undone, six are left; they grow by seven and are cut at ten
                due.is("six are left", 6, () -> x.size(5));
            }
        }
    }

    private static void undoneAndChangedAgain() {
        due.says("Undoes the latest change that has not been undone.");
        CoinLadders x = Due.game(LONG);
        steps(x, 0, 3);
        x.undo();
        x.undo();
        x.lock(1, 5);
        due.is("two changes", 2, () -> x.size(5));
        due.is("the lock is undone", 1, () -> x.undo());
        due.is("no lock", 0, () -> x.set(1, 1));
        due.is("one act", 1, () -> x.size(2));
        due.is("the first step is undone", 0, () -> x.undo());
        due.is("the undone steps do not come again", -1, () -> x.undo());
        due.is("no acts", 0, () -> x.size(2));
        due.is("the coins", 1 << 12 | 1 << 11 | 1 << 10, () -> x.set(0, 0));
    }

    private static void playIsOneChange() {
        due.says("(play is one change, even if no act is made)");
        CoinLadders x = new CoinLadders();
        for (int i = 1; i <= 12; i++) {
            int changes = Math.min(i, 10);
            due.is("no act", 0, () -> x.play(1));
            due.is("a change", changes, () -> x.size(5));
        }
        due.is("it can be undone", 9, () -> x.undo());
        CoinLadders y = Due.game(LONG);
        y.play(60);
        due.is("sixty acts are one change", 1, () -> y.size(5));
        due.is("undone at once", 0, () -> y.undo());
        due.is("no acts", 0, () -> y.size(2));
        CoinLadders z = Due.game(LONG);
        steps(z, 0, 9);
        z.play(20);
        due.is("the tenth change", 10, () -> z.size(5));
        z.play(1);
        due.is("the eleventh", 10, () -> z.size(5));
        for (int i = 9; i >= 0; i--) {
            int left = i;
            due.is("left", left, () -> z.undo());
        }
        due.is("the first step has stayed", 1, () -> z.size(2));
    }

    private static void whatIsNoChange() {
        due.says("The methods from step to play change the game");
        CoinLadders x = Due.game("ladder 9 9 8; ladder 5 5; tokens 9 9 9;");
        x.step(0, 9, 2);
        String before = Look.at(x);
        x.valueOf(0, 6);
        x.sum();
        x.stepsOn(0);
        x.longest(0);
        x.positions(0);
        x.meanValue(0);
        x.isRight();
        x.allowed();
        x.choice(0, 3);
        x.best();
        x.whyNotStep(0, 8, 2);
        x.whyNotClaim(0);
        x.whyNotLock(0, 1);
        x.whyNotBack();
        x.saveSnapshot(0);
        x.append(0, 0, 0, 0, 0);
        due.is("a wrong text", -3, () -> x.parse(1));
        due.isTrue("all is as before", Look.at(x).equals(before));
        due.is("one change", 1, () -> x.size(5));
        due.is("it can be undone", 0, () -> x.undo());
        due.is("none else", -1, () -> x.undo());
    }

    private static void throwingChangesNothing() {
        due.says("A method that throws an exception changes nothing.");
        CoinLadders x = Due.game("ladder 9 9; ladder 2 2; tokens 1 1 1;");
        x.step(0, 9, 1);
        x.saveSnapshot(0);
        x.claim(1);
        String before = Look.at(x);
        due.fails("step", ARGUMENT, () -> x.step(1, 2, 1));
        due.fails("claim", ARGUMENT, () -> x.claim(1));
        due.fails("lock", ARGUMENT, () -> x.lock(1, 2));
        due.fails("back", STATE, () -> x.back());
        due.fails("pass", STATE, () -> x.pass());
        due.fails("play", ARGUMENT, () -> x.play(0));
        due.fails("parse", ARGUMENT, () -> x.parse(1));
        due.isTrue("all is as before", Look.at(x).equals(before));
        due.is("the claim is undone", 1, () -> x.undo());
        due.is("nobody has it", -1, () -> x.ladder(1, 4));
        due.fails("a step behind undo", ARGUMENT, () -> x.step(0, 9, 1));
        due.is("the step is undone", 0, () -> x.undo());
        due.is("no acts", 0, () -> x.size(2));
        due.is("the slot is as it was", 1, () -> restore(x, 0));
        due.is("one act", 1, () -> x.size(2));
        CoinLadders y = Due.game(LONG);
        steps(y, 0, 12);
        y.undo();
        for (int i = 0; i < 12; i++) {
            due.fails("step", ARGUMENT, () -> y.step(0, 9, 2));
        }
        due.is("nine still", 9, () -> y.size(5));
        due.is("eight left", 8, () -> y.undo());
        due.is("ten acts", 10, () -> y.size(2));
    }

    private static void undoBringsTheLogBack() {
        due.says("the latest 16 acts are kept");
        CoinLadders x = Due.game(LONG);
        steps(x, 0, 18);
        String before = Look.atState(x);
        x.play(40);
        x.undo();
        due.isTrue("the log behind undo of forty acts", Look.atState(x).equals(before));
        due.is("the sixteenth", 8, () -> x.act(15, 3));
        due.is("no seventeenth", -1, () -> x.act(16, 3));
        for (int i = 0; i < 9; i++) {
            x.undo();
        }
        due.is("nine acts", 9, () -> x.size(2));
        due.is("the first", 10, () -> x.act(8, 3));
        due.is("none before it", -1, () -> x.act(9, 3));
    }

    private static void savedSlots() {
        due.says("There are two snapshot slots, 0 and 1;");
        CoinLadders x = Due.game(LONG);
        due.is("save 0", 1, () -> save(x, 0));
        due.is("1 is empty", 0, () -> restore(x, 1));
        steps(x, 0, 1);
        due.is("save 1", 1, () -> save(x, 1));
        steps(x, 1, 1);
        due.is("restore 0", 1, () -> restore(x, 0));
        due.is("no acts", 0, () -> x.size(2));
        due.is("restore 1", 1, () -> restore(x, 1));
        due.is("one act", 1, () -> x.size(2));
        CoinLadders y = Due.game(LONG);
        y.saveSnapshot(1);
        due.is("0 is empty", 0, () -> restore(y, 0));
        due.is("1 is not", 1, () -> restore(y, 1));
        CoinLadders z = new CoinLadders();
        due.is("save a new object", 1, () -> save(z, 0));
        due.is("restore it", 1, () -> restore(z, 0));
        due.is("no ladders", 0, () -> z.size(0));
    }

    private static void inPlaceOfWhatWasThere() {
        due.says("Saves a snapshot, in place of what the slot held before.");
        for (int slot = 0; slot < 2; slot++) {
            int own = slot;
            CoinLadders x = Due.game(LONG);
            x.saveSnapshot(1 - slot);
            for (int i = 0; i < 3; i++) {
                steps(x, i, 1);
                due.is("save", 1, () -> save(x, own));
            }
            steps(x, 3, 1);
            due.is("restore", 1, () -> restore(x, own));
            due.is("the latest saved", 3, () -> x.size(2));
            due.is("the other slot", 1, () -> restore(x, 1 - own));
            due.is("is as it was", 0, () -> x.size(2));
        }
    }

    private static void savingIsNoChange() {
        due.says("saveSnapshot: Returns true;");
        CoinLadders x = Due.game(LONG);
        steps(x, 0, 3);
        String before = Look.at(x);
        due.is("save", 1, () -> save(x, 0));
        due.is("save again", 1, () -> save(x, 0));
        due.isTrue("all is as before", Look.at(x).equals(before));
        due.is("the history, too", 2, () -> x.undo());
    }

    private static void noSuchSlotToSave() {
        due.says("saveSnapshot: false if there is no such slot");
        CoinLadders x = Due.game(LONG);
        steps(x, 0, 1);
        x.saveSnapshot(0);
        x.saveSnapshot(1);
        steps(x, 1, 1);
        String before = Look.at(x);
        int[] wrong = {-1, 2, 3, 16, 32, LEAST, LEAST + 1, GREATEST};
        for (int slot : wrong) {
            due.is("saveSnapshot(" + slot + ")", 0, () -> save(x, slot));
        }
        due.isTrue("nothing changed", Look.at(x).equals(before));
        for (int i = 0; i < 2; i++) {
            int slot = i;
            due.is("slot " + slot, 1, () -> restore(x, slot));
            due.is("holds what it held", 1, () -> x.size(2));
        }
    }

    private static void restoringClearsTheHistory() {
        due.says("Restores a snapshot and clears the undo history.");
        CoinLadders x = Due.game(LONG);
        steps(x, 0, 2);
        x.saveSnapshot(0);
        due.is("two changes", 2, () -> x.size(5));
        due.is("restored at once", 1, () -> restore(x, 0));
        due.is("no changes", 0, () -> x.size(5));
        due.is("none to undo", -1, () -> x.undo());
        due.is("two acts", 2, () -> x.size(2));
        steps(x, 2, 12);
        due.is("ten changes again", 10, () -> x.size(5));
        x.restoreSnapshot(0);
        due.is("none again", -1, () -> x.undo());
        steps(x, 2, 1);
        due.is("one behind restoring", 0, () -> x.undo());
        due.is("to what was restored", 2, () -> x.size(2));
        due.is("and no further", -1, () -> x.undo());
    }

    private static void staysInItsSlot() {
        due.says("The snapshot stays in its slot.");
        CoinLadders x = behind(2);
        x.saveSnapshot(1);
        String saved = Look.atState(x);
        for (int round = 0; round < 3; round++) {
            for (int i = 2; i < 6; i++) {
                several(x, i);
            }
            x.undo();
            due.is("restore in round " + round, 1, () -> restore(x, 1));
            due.isTrue("what was saved, in round " + round, Look.atState(x).equals(saved));
        }
    }

    private static void emptySlots() {
        due.says("false, with nothing changed, if there is no such slot or it is empty");
        CoinLadders x = Due.game(LONG);
        x.saveSnapshot(0);
        steps(x, 0, 3);
        String before = Look.at(x);
        int[] wrong = {1, -1, 2, 3, 16, 32, LEAST, LEAST + 1, GREATEST};
        for (int slot : wrong) {
            due.is("restoreSnapshot(" + slot + ")", 0, () -> restore(x, slot));
        }
        due.isTrue("nothing changed", Look.at(x).equals(before));
        due.is("the history, too", 2, () -> x.undo());
        due.is("slot 0 is full still", 1, () -> restore(x, 0));
        due.is("a new object's slots are empty", 0, () -> restore(new CoinLadders(), 0) + restore(new CoinLadders(), 1));
        x.saveSnapshot(1);
        due.is("a good parse", 1, () -> Due.parse(x, "ladder 9 9;"));
        String fresh = Look.at(x);
        due.is("empties slot 0", 0, () -> restore(x, 0));
        due.is("and slot 1", 0, () -> restore(x, 1));
        due.isTrue("the new game stays", Look.at(x).equals(fresh));
    }

    private static void allThatChangesCanChange() {
        due.says("a snapshot holds everything that changes can change, the log, too");
        for (int changes = 0; changes <= 9; changes++) {
            CoinLadders x = behind(changes);
            x.saveSnapshot(0);
            String saved = Look.atState(x);
            x.play(3);
            x.lock(0, 4);
            x.play(60);
            due.is("restore behind " + changes, 1, () -> restore(x, 0));
            due.isTrue("all behind " + changes, Look.atState(x).equals(saved));
        }
        CoinLadders y = Due.game("ladder 9 9; ladder 9 9; tokens 9 9 9;");
        y.claim(1);
        y.step(0, 9, 2);
        y.back();
        y.saveSnapshot(1);
        y.play(9);
        y.restoreSnapshot(1);
        due.is("the ban", 9, () -> y.whyNotStep(0, 9, 2));
        due.is("the claim", 8, () -> y.whyNotStep(1, 9, 2));
        due.is("its length", 1, () -> y.ladder(1, 5));
        y.lock(0, 1);
        due.is("and goes on getting shorter", 0, () -> y.ladder(1, 5));
    }

    private static void snapshotsHoldTheLog() {
        due.says("the log, too");
        CoinLadders x = Due.game(LONG);
        steps(x, 0, 20);
        x.saveSnapshot(0);
        String saved = Look.atState(x);
        x.play(20);
        x.restoreSnapshot(0);
        due.isTrue("all sixteen acts", Look.atState(x).equals(saved));
        due.is("the oldest kept", 6, () -> x.act(15, 3));
        due.is("none before it", -1, () -> x.act(16, 3));
        due.is("the latest can be taken back", 0, () -> x.whyNotBack());
    }

    private static void slotsBehindUndoAndErrors() {
        due.says("There are two snapshot slots, 0 and 1; a snapshot holds everything that changes can change");
        CoinLadders x = Due.game(LONG);
        steps(x, 0, 2);
        x.saveSnapshot(0);
        x.undo();
        x.saveSnapshot(1);
        x.undo();
        due.is("a syntax error leaves the slots", -3, () -> Due.parse(x, "?"));
        due.is("slot 0", 1, () -> restore(x, 0));
        due.is("two acts", 2, () -> x.size(2));
        due.is("slot 1", 1, () -> restore(x, 1));
        due.is("one act", 1, () -> x.size(2));
        due.is("slot 0 again", 1, () -> restore(x, 0));
        due.is("two acts again", 2, () -> x.size(2));
    }
}
