/** Promises 1 to 3: a new object, append and parse. */
public final class TextTest {
    private static final Due due = new Due("TextTest");

    public static void main(String[] args) {
        newObject();
        append();
        parseLength();
        goodTexts();
        illegalTokens();
        wrongOrder();
        tooShort();
        ranges();
        repeated();
        tooMany();
        whatAnErrorLeaves();
        whatASuccessClears();
        whatTheTextBeforeLeaves();
        due.end();
    }

    private static void newObject() {
        CoinLadders x = new CoinLadders();
        due.is("new: size(0)", 0, () -> x.size(0));
        due.is("new: size(1)", 0, () -> x.size(1));
        due.is("new: size(2)", 0, () -> x.size(2));
        due.is("new: size(3)", 1, () -> x.size(3));
        due.is("new: size(4)", 1, () -> x.size(4));
        due.is("new: size(5)", 0, () -> x.size(5));
        due.fails("new: ladder(0, 0)", IndexOutOfBoundsException.class, () -> x.ladder(0, 0));
        due.is("new: act(0, 0)", -1, () -> x.act(0, 0));
        due.is("new: undo()", -1, () -> x.undo());
        due.is("new: restoreSnapshot(0)", 0, () -> x.restoreSnapshot(0) ? 1 : 0);
        due.fails("new: parse(1)", IllegalArgumentException.class, () -> x.parse(1));
        due.is("new: append", 20, () -> x.append(0, 0, 0, 0, 0));
        CoinLadders y = new CoinLadders();
        due.is("new: parse(0)", 0, () -> y.parse(0));
        for (int i = 0; i < 6; i++) {
            int player = i / 3;
            int kind = i % 3;
            due.is("new: tokens", 1, () -> new CoinLadders().player(player, kind));
        }
    }

    private static void append() {
        CoinLadders x = new CoinLadders();
        for (int i = 1; i <= 20; i++) {
            int want = 20 * i;
            due.is("append number " + i, want, () -> x.append(0x20202020, 0x20202020, 0x20202020, 0x20202020, 0x20202020));
        }
        due.is("append above 400", -1, () -> x.append(0x3b3b3b3b, 0, 0, 0, 0));
        due.is("append above 400 again", -1, () -> x.append(0x3b3b3b3b, 0, 0, 0, 0));
        due.fails("parse(401)", IllegalArgumentException.class, () -> x.parse(401));
        due.is("parse(400) of spaces", 0, () -> x.parse(400));
        due.is("append to the emptied buffer", 20, () -> x.append(0, 0, 0, 0, 0));
        CoinLadders y = new CoinLadders();
        // "ladd" "er 9" " 7 5" " ste" "ps 2"; each int's bytes with the most significant first
        due.is("append in order", 20, () -> y.append(0x6c616464, 0x65722039, 0x20372035, 0x20737465, 0x70732032));
        due.is("append behind", 40, () -> y.append(0x3b0a2020, 0, 0, 0, 0));
        due.is("parse(24)", 1, () -> y.parse(24));
        due.is("top", 9, () -> y.ladder(0, 0));
        due.is("coins", 1 << 7 | 1 << 5, () -> y.set(0, 0));
        due.is("sizes", 4, () -> y.set(0, 2));
    }

    private static void parseLength() {
        CoinLadders x = new CoinLadders();
        Due.append(x, "ladder 3 2;");
        due.fails("parse(-1)", IllegalArgumentException.class, () -> x.parse(-1));
        due.fails("parse(21)", IllegalArgumentException.class, () -> x.parse(21));
        due.fails("parse(least)", IllegalArgumentException.class, () -> x.parse(Integer.MIN_VALUE));
        due.fails("parse(greatest)", IllegalArgumentException.class, () -> x.parse(Integer.MAX_VALUE));
        due.is("the buffer has stayed", 40, () -> x.append(0, 0, 0, 0, 0));
        due.is("parse(11)", 1, () -> x.parse(11));
        due.is("the whole buffer is empty", 20, () -> x.append(0, 0, 0, 0, 0));
        due.is("parse(20) of zeros", -2 - 1, () -> x.parse(20));
        due.is("the whole buffer is empty after an error", 20, () -> x.append(0, 0, 0, 0, 0));
        CoinLadders y = new CoinLadders();
        Due.append(y, "ladder 12 12;");
        due.is("only the first bytes count", 1, () -> y.parse("ladder 12 12;".length()));
        Due.append(y, "ladder 12 12;");
        due.is("a number is cut", error(11, 1), () -> y.parse(11));
        Due.append(y, "ladder 12 12;");
        due.is("a word is cut", error(0, 1), () -> y.parse(5));
    }

    private static void goodTexts() {
        good("", 0);
        good(" \n \n", 0);
        good("ladder 1 1;", 1);
        good("ladder12 12 11 10steps12 1 2 3;", 1);
        good("\nladder\n5\n5\n;\n", 1);
        good("ladder 05 05 steps 01;", 1);
        good("first 1;tokens 0 9 00;ladder 3 3;lock 0 3;lock 0 1;", 1);
        good("ladder 1 1;ladder 2 2;ladder 3 3;ladder 4 4;ladder 5 5;ladder 6 6;lock 5 6;lock 0 1;", 6);
        CoinLadders x = Due.game("ladder 4 4 2; ladder 12 12 11 1 steps 12 5; lock 1 12; lock 1 3; tokens 2 0 9; first 1;");
        due.is("top 0", 4, () -> x.ladder(0, 0));
        due.is("coins 0", 2, () -> x.ladder(0, 1));
        due.is("usual sizes", 14, () -> x.set(0, 2));
        due.is("locks 0", 0, () -> x.set(0, 1));
        due.is("top 1", 12, () -> x.ladder(1, 0));
        due.is("coins 1", 3, () -> x.ladder(1, 1));
        due.is("coin heights 1", 1 << 12 | 1 << 11 | 2, () -> x.set(1, 0));
        due.is("sizes 1", 1 << 12 | 1 << 5, () -> x.set(1, 2));
        due.is("locks 1", 1 << 12 | 8, () -> x.set(1, 1));
        due.is("first", 1, () -> x.size(1));
        for (int player = 0; player < 2; player++) {
            int who = player;
            due.is("claims", 2, () -> x.player(who, 0));
            due.is("locks", 0, () -> x.player(who, 1));
            due.is("backs", 9, () -> x.player(who, 2));
        }
        CoinLadders y = Due.game("ladder 1 1;");
        due.is("first without the statement", 0, () -> y.size(1));
        due.is("tokens without the statement", 1, () -> y.player(1, 0));
    }

    private static void illegalTokens() {
        bad("?", 0, 1);
        bad("  \t", 2, 1);
        bad("Ladder 1 1;", 0, 1);
        bad("ladder 5 5;\u00e4", 11, 1);
        bad("ladder -1 1;", 7, 1);
        bad("ladder 123 1;", 7, 1);
        bad("ladder 012 1;", 7, 1);
        bad("ladder 5 005;", 9, 1);
        bad("ladder 5 5 123;", 11, 1);
        bad("ladder 5 5 steps 001;", 17, 1);
        bad("ladder 5 5 stepsstep 1;", 11, 1);
        bad("laddersss 5 5;", 0, 1);
        bad("ladder 5 5,", 10, 1);
        bad("tokens 1 100 1;", 9, 1);
    }

    private static void wrongOrder() {
        bad(";", 0, 1);
        bad("5", 0, 1);
        bad("ladders 5 5;", 0, 1);
        bad("ladderz 5 5;", 0, 1);
        bad("aladder 5 5;", 0, 1);
        bad("madder 5 5;", 0, 1);
        bad("laddeq 5 5;", 0, 1);
        bad("dock 0 1;", 0, 1);
        bad("steps", 0, 1);
        bad("steps 1;", 0, 1);
        bad("ladder;", 6, 1);
        bad("ladder 5;", 8, 1);
        bad("ladder 5 steps 1;", 9, 1);
        bad("ladder steps", 7, 1);
        bad("ladder 5 5 steps;", 16, 1);
        bad("ladder 5 5 steps 1 steps 2;", 19, 1);
        bad("ladder 5 5 lock 0 1;", 11, 1);
        bad("ladder 5 5;;", 11, 1);
        bad("ladder 5 5; lock 0;", 18, 1);
        bad("ladder 5 5; lock;", 16, 1);
        bad("ladder 5 5; lock 0 1 2;", 21, 1);
        bad("tokens 1 1;", 10, 1);
        bad("tokens 1 1 1 1;", 13, 1);
        bad("first;", 5, 1);
        bad("first 0 0;", 8, 1);
        bad("ladder 5 5 first 0;", 11, 1);
    }

    private static void tooShort() {
        bad("ladder", 6, 1);
        bad("ladder  ", 8, 1);
        bad("ladder 5", 8, 1);
        bad("ladder 5 5", 10, 1);
        bad("ladder 5 5 \n ", 13, 1);
        bad("ladder 5 5 steps", 16, 1);
        bad("ladder 5 5 steps 1", 18, 1);
        bad("ladder 5 5;lock", 15, 1);
        bad("ladder 5 5;lock 0", 17, 1);
        bad("ladder 5 5;lock 0 1", 19, 1);
        bad("tokens 1 1 1", 12, 1);
        bad("first", 5, 1);
        bad("first 1", 7, 1);
    }

    private static void ranges() {
        bad("ladder 0 1;", 7, 2);
        bad("ladder 13 1;", 7, 2);
        bad("ladder 99 1;", 7, 2);
        bad("ladder 5 0;", 9, 2);
        bad("ladder 5 6;", 9, 2);
        bad("ladder 12 13;", 10, 2);
        bad("ladder 5 5 steps 0;", 17, 2);
        bad("ladder 5 5 steps 13;", 17, 2);
        good("ladder 5 5 steps 12;", 1);
        bad("lock 0 1;", 5, 2);
        bad("ladder 5 5;lock 1 1;", 16, 2);
        bad("ladder 5 5;lock 0 0;", 18, 2);
        bad("ladder 5 5;lock 0 6;", 18, 2);
        bad("ladder 5 5;lock 1 1;ladder 5 5;", 16, 2);
        bad("tokens 10 1 1;", 7, 2);
        bad("tokens 1 10 1;", 9, 2);
        bad("tokens 1 1 10;", 11, 2);
        bad("first 2;", 6, 2);
        bad("first 99;", 6, 2);
    }

    private static void repeated() {
        bad("ladder 5 5 5;", 11, 3);
        bad("ladder 5 5 05;", 11, 3);
        bad("ladder 5 1 2 1;", 13, 3);
        bad("ladder 5 5 steps 1 1;", 19, 3);
        bad("ladder 5 5;lock 0 2;lock 0 2;", 27, 3);
        bad("tokens 1 1 1;tokens 1 1 1;", 13, 3);
        bad("tokens 1 1 1;tokens", 13, 3);
        bad("first 0;first 0;", 8, 3);
        bad("first 0; first ?", 9, 3);
        good("ladder 5 5;ladder 5 5;lock 0 2;lock 1 2;", 2);
    }

    private static void tooMany() {
        bad("ladder 5 1 2 3 4;", 15, 4);
        bad("ladder 5 1 2 3 6;", 15, 2);
        bad("ladder 5 1 2 3 0;", 15, 2);
        bad("ladder 5 1 2 3 3;", 15, 3);
        bad("ladder 5 1 2 3 123;", 15, 1);
        bad("ladder 5 1 steps 1 2 3 4 5;", 25, 4);
        bad("ladder 5 1 steps 1 2 3 4 13;", 25, 2);
        bad("ladder 5 1 steps 1 2 3 4 4;", 25, 3);
        good("ladder 5 1 2 3 steps 1 2 3 4;", 1);
        String six = "ladder 1 1;ladder 1 1;ladder 1 1;ladder 1 1;ladder 1 1;ladder 1 1;";
        good(six + "lock 5 1;", 6);
        bad(six + "ladder 1 1;", six.length(), 4);
        bad(six + " ladder ?", six.length() + 1, 4);
        bad(six + "ladders", six.length(), 1);
    }

    private static void whatAnErrorLeaves() {
        CoinLadders x = Due.game("ladder 3 3; tokens 2 2 2;");
        x.claim(0);
        x.saveSnapshot(1);
        due.is("error", error(11, 1), () -> Due.parse(x, "ladder 5 5;?"));
        due.is("error behind tokens", error(20, 2), () -> Due.parse(x, "tokens 9 9 9; first 2;"));
        due.is("ladders stay", 1, () -> x.size(0));
        due.is("top stays", 3, () -> x.ladder(0, 0));
        due.is("claim stays", 0, () -> x.ladder(0, 4));
        due.is("tokens stay", 1, () -> x.player(0, 0));
        due.is("acts stay", 1, () -> x.size(2));
        due.is("changes stay", 1, () -> x.size(5));
        due.is("the snapshot stays", 1, () -> x.restoreSnapshot(1) ? 1 : 0);
    }

    private static void whatASuccessClears() {
        CoinLadders x = Due.game("ladder 9 9; ladder 9 9; tokens 2 2 2;");
        x.claim(0);
        x.step(1, 9, 1);
        x.back();
        x.lock(0, 2);
        x.saveSnapshot(0);
        x.saveSnapshot(1);
        due.is("new game", 1, () -> Due.parse(x, "ladder 9 9;"));
        due.is("ladders", 1, () -> x.size(0));
        due.is("player", 0, () -> x.size(1));
        due.is("acts", 0, () -> x.size(2));
        due.is("changes", 0, () -> x.size(5));
        due.is("undo()", -1, () -> x.undo());
        due.is("claimer", -1, () -> x.ladder(0, 4));
        due.is("claim", 0, () -> x.ladder(0, 5));
        due.is("locks", 0, () -> x.set(0, 1));
        due.is("tokens", 1, () -> x.player(0, 0));
        due.is("steps made", 0, () -> x.player(1, 3));
        due.is("act(0, 0)", -1, () -> x.act(0, 0));
        due.is("nothing is banned", 3, () -> x.allowed());
        due.is("value", 1, () -> x.ladder(0, 3));
        due.is("slot 0", 0, () -> x.restoreSnapshot(0) ? 1 : 0);
        due.is("slot 1", 0, () -> x.restoreSnapshot(1) ? 1 : 0);
        Due.parse(x, "ladder 9 9 steps 2;");
        due.is("value with other sizes", 0, () -> x.ladder(0, 3));
        due.is("an empty text is a game, too", 0, () -> x.parse(0));
        due.is("no ladders", 0, () -> x.size(0));
    }

    private static void whatTheTextBeforeLeaves() {
        CoinLadders x = Due.game("first 1; ladder 9 9; lock 0 3; ladder 9 9; tokens 3 3 3;");
        x.claim(1);
        x.step(0, 9, 1);
        x.back();
        due.is("an error behind a lock", error(19, 1), () -> Due.parse(x, "ladder 5 5;lock 0 4"));
        due.is("an error behind first", error(9, 1), () -> Due.parse(x, "first 1; ;"));
        due.is("an error behind tokens", error(14, 1), () -> Due.parse(x, "tokens 5 5 5; ;"));
        due.is("the locks stay", 8, () -> x.set(0, 1));
        due.is("the ban stays", 9, () -> x.whyNotStep(0, 9, 1));
        due.is("a new game", 2, () -> Due.parse(x, "ladder 9 9; ladder 9 9;"));
        due.is("no locks", 0, () -> x.set(0, 1));
        due.is("first is 0", 0, () -> x.size(1));
        due.is("tokens are 1", 1, () -> x.player(0, 0));
        due.is("no ban", 0, () -> x.whyNotStep(0, 9, 1));
        due.is("no claim", 0, () -> x.ladder(1, 5));
        due.is("no claimer", -1, () -> x.ladder(1, 4));
        due.is("all statements again", 1, () -> Due.parse(x, "first 1; ladder 9 9; lock 0 3; lock 0 4; tokens 2 2 2;"));
        due.is("the locks", 24, () -> x.set(0, 1));
        due.fails("the second ladder is gone", IndexOutOfBoundsException.class, () -> x.ladder(1, 0));
        due.is("it can't be locked", error(16, 2), () -> Due.parse(x, "ladder 9 9;lock 1 3;"));
        due.is("the sum is that of one ladder", x.ladder(0, 3), () -> x.sum());
        due.is("the steps are those of one ladder", x.stepsOn(0), () -> x.allowed());
    }

    private static int error(int offset, int kind) {
        return -2 - (8 * offset + kind);
    }

    private static void good(String text, int ladders) {
        due.is("parse of " + text, ladders, () -> Due.parse(new CoinLadders(), text));
    }

    private static void bad(String text, int offset, int kind) {
        due.is("parse of " + text, error(offset, kind), () -> Due.parse(new CoinLadders(), text));
    }
}
