/** Promises 1 to 3: each sentence of the document that names a boundary case of a text has a method here. */
public final class TextEdgesTest {
    private static final Due due = new Due("TextEdgesTest");
    private static final Class<IllegalArgumentException> ARGUMENT = IllegalArgumentException.class;
    private static final Class<IndexOutOfBoundsException> INDEX = IndexOutOfBoundsException.class;
    private static final int LEAST = Integer.MIN_VALUE;
    private static final int GREATEST = Integer.MAX_VALUE;
    private static final int FOUR_SPACES = 0x20202020;
    private static final String SIX = "ladder 1 1;ladder 2 2;ladder 3 3;ladder 4 4;ladder 5 5;ladder 6 6;";

    public static void main(String[] args) {
        aNewObject();
        fourHundredBytes();
        noneAppended();
        orderOfBytes();
        lengthOfTheBuffer();
        whiteSpace();
        eachByte();
        words();
        numbers();
        emptyGame();
        sixLadders();
        coins();
        stepSizes();
        onceEach();
        rangesOfALadder();
        rangesOfALock();
        rangesOfTokens();
        rangesOfFirst();
        lowestOffset();
        lowestKind();
        wrongToken();
        endsTooEarly();
        eachPrefix();
        repeatedCoin();
        repeatedSize();
        repeatedLock();
        repeatedWord();
        tooMany();
        wrongLength();
        onlyTheFirstBytes();
        emptyBehindParse();
        answerOfAnError();
        errorLeavesAll();
        newGameBehindParse();
        due.end();
    }

    private static void aNewObject() {
        due.says("Creates a game without ladders, with an empty input buffer.");
        CoinLadders x = new CoinLadders();
        due.is("size(0)", 0, () -> x.size(0));
        due.fails("ladder(0, 0)", INDEX, () -> x.ladder(0, 0));
        due.is("acts", 0, () -> x.size(2));
        due.is("over", 1, () -> x.size(3));
        due.is("0 has lost", 1, () -> x.size(4));
        due.is("changes", 0, () -> x.size(5));
        due.is("nothing to undo", -1, () -> x.undo());
        due.is("slot 0", 0, () -> x.restoreSnapshot(0) ? 1 : 0);
        due.is("slot 1", 0, () -> x.restoreSnapshot(1) ? 1 : 0);
        due.fails("parse(1)", ARGUMENT, () -> x.parse(1));
        due.is("parse(0)", 0, () -> x.parse(0));
        due.is("append", 20, () -> spaces(x));
        CoinLadders y = Due.game("ladder 3 3;");
        due.is("another object is of its own", 0, () -> new CoinLadders().size(0));
        due.is("it stays", 1, () -> y.size(0));
    }

    private static void fourHundredBytes() {
        due.says("The input buffer holds at most 400 bytes.");
        CoinLadders x = new CoinLadders();
        for (int i = 1; i < 20; i++) {
            int length = 20 * i;
            due.is("append", length, () -> spaces(x));
        }
        // "ladd" "er 7" " 5 1" " 2  " "   ;"
        due.is("the twentieth append", 400, () -> x.append(0x6c616464, 0x65722037, 0x20352031, 0x20322020, 0x2020203b));
        due.is("the last one is read, too", 1, () -> x.parse(400));
        due.is("its coins", 1 << 5 | 1 << 1 | 1 << 2, () -> x.set(0, 0));
        due.fails("400 are in it, and not 401", ARGUMENT, () -> {
            Due.append(x, pad("", 386) + "ladder 5 5 12;");
            return x.parse(401);
        });
        due.is("399 of 400", error(397, 2), () -> x.parse(399));
    }

    private static void noneAppended() {
        due.says("NONE, with nothing appended, if the buffer would have more than 400 bytes.");
        CoinLadders x = new CoinLadders();
        Due.append(x, pad("ladder 9 7;", 400));
        due.is("one more", -1, () -> x.append(0x3b3b3b3b, 0x3b3b3b3b, 0x3b3b3b3b, 0x3b3b3b3b, 0x3b3b3b3b));
        due.is("again", -1, () -> spaces(x));
        due.fails("the length is still 400", ARGUMENT, () -> x.parse(401));
        due.fails("nor 420", ARGUMENT, () -> x.parse(420));
        due.is("the bytes are as they were", 1, () -> x.parse(400));
        due.is("the top", 9, () -> x.ladder(0, 0));
        due.is("behind parse there is room again", 20, () -> spaces(x));
    }

    private static void orderOfBytes() {
        due.says("the four bytes of a, then those of b, c, d and e, each with the most significant byte first");
        for (int i = 0; i < 20; i++) {
            int offset = i;
            int[] five = {FOUR_SPACES, FOUR_SPACES, FOUR_SPACES, FOUR_SPACES, FOUR_SPACES};
            // with the sign, if the byte is the first of its four
            five[i / 4] |= 0x9f << 24 - i % 4 * 8;
            CoinLadders x = new CoinLadders();
            due.is("append", 20, () -> x.append(five[0], five[1], five[2], five[3], five[4]));
            due.is("byte " + offset + " is the illegal one", error(offset, 1), () -> x.parse(20));
        }
    }

    private static void lengthOfTheBuffer() {
        due.says("Returns the new length of the buffer;");
        CoinLadders x = new CoinLadders();
        due.is("zeros count, too", 20, () -> x.append(0, 0, 0, 0, 0));
        due.is("all bits", 40, () -> x.append(-1, -1, -1, -1, -1));
        due.fails("parse(41)", ARGUMENT, () -> x.parse(41));
        due.is("behind a refused parse", 60, () -> x.append(LEAST, GREATEST, LEAST, GREATEST, LEAST));
        x.undo();
        due.is("behind undo", 80, () -> spaces(x));
        x.saveSnapshot(0);
        spaces(x);
        x.restoreSnapshot(0);
        due.is("snapshots do not hold the buffer", 120, () -> spaces(x));
    }

    private static void whiteSpace() {
        due.says("they may stand between tokens and are otherwise ignored");
        good("\n \n ladder \n 5\n\n5 \n;\n ", 1);
        good("ladder5 5steps2;lock0 1;tokens1 2 3;first0;", 1);
        bad("lad der 5 5;", 0, 1);
        bad("ladder 1 2 5;", 9, 2);
        bad("ladder 12;", 9, 1);
        bad("ladder 5 5 step s 1;", 11, 1);
        good("ladder 12 1 2;", 1);
        due.is("two coins", 2, () -> Due.game("ladder 12 1 2;").ladder(0, 1));
        due.is("one coin", 1, () -> Due.game("ladder 12 12;").ladder(0, 1));
    }

    private static void eachByte() {
        due.says("Any other byte, and any longer run, is an illegal token that starts at its first byte.");
        for (int b = 0; b < 256; b++) {
            String sign = String.valueOf((char) b);
            if (b == ' ' || b == '\n') {
                good(sign, 0);
                good("ladder 5" + sign + "5;", 1);
                good("ladder 5 5;" + sign, 1);
                good("ladder 5 5" + sign + ";", 1);
            } else {
                bad(sign, 0, 1);
                bad("ladder 5 5;" + sign, 11, 1);
                behindADigit(sign);
            }
        }
        bad("ladder 5 ?5;", 9, 1);
        bad("ladder 5 5?;", 10, 1);
        bad("?ladder 5 5;", 0, 1);
        bad("Ladder 5 5;", 0, 1);
        bad("laDder 5 5;", 0, 1);
        bad("ladder 5 5; \u00ec\u00e1", 12, 1);
    }

    private static void behindADigit(String sign) {
        String text = "ladder 5 5 1 2" + sign + ";";
        if (sign.matches("[0-9]")) {
            bad(text, 13, 2);
        } else {
            bad(text, sign.equals(";") ? 15 : 14, 1);
        }
    }

    private static void words() {
        due.says("a word (a maximal run of lower-case letters a to z, 1 to 8 letters long)");
        bad("ladderladder 5 5;", 0, 1);
        bad("ladder 5 5 stepslock 0 1;", 11, 1);
        bad("firstfirst 0;", 0, 1);
        bad("l 5 5;", 0, 1);
        bad("ladde 5 5;", 0, 1);
        bad("adder 5 5;", 0, 1);
        bad("ladderz 5 5;", 0, 1);
        bad("laddera 5 5;", 0, 1);
        bad("madder 5 5;", 0, 1);
        bad("ladder 5 5 stepsz 1;", 11, 1);
        bad("ladder 5 5 zsteps 1;", 11, 1);
        bad("ladderss 5 5;", 0, 1);
        bad("laddersss 5 5;", 0, 1);
        bad("loc 0 1;", 0, 1);
        bad("locks 0 1;", 0, 1);
        bad("token 1 1 1;", 0, 1);
        bad("firs 0;", 0, 1);
        bad("ladder 5 5 step 1;", 11, 1);
        bad("ladder 5 5 stepss 1;", 11, 1);
        bad("ladder 5 5;" + "z".repeat(389), 11, 1);
        bad(SIX + "ladderladder", SIX.length(), 1);
        bad("first 0;firstfirst", 8, 1);
    }

    private static void numbers() {
        due.says("a number (a maximal run of digits, 1 to 2 digits long)");
        good("ladder 05 05 01 steps 01 09 02;lock 00 01;tokens 00 09 05;first 01;", 1);
        due.is("00 is 0", 1, () -> Due.game("first 01;").size(1));
        bad("ladder 005 5;", 7, 1);
        bad("ladder 5 100;", 9, 1);
        bad("ladder 5 5 005;", 11, 1);
        bad("ladder 5 1 2 3 004;", 15, 1);
        bad("ladder 5 5 steps 100;", 17, 1);
        bad("ladder 5 5 steps 1 001;", 19, 1);
        bad("ladder 5 5;lock 000 1;", 16, 1);
        bad("ladder 5 5;lock 0 001;", 18, 1);
        bad("tokens 001 1 1;", 7, 1);
        bad("tokens 1 001 1;", 9, 1);
        bad("tokens 1 1 001;", 11, 1);
        bad("first 000;", 6, 1);
        // numbers of which 32 or 64 bits would keep 1 or 5
        bad("ladder 4294967301 5;", 7, 1);
        bad("ladder 5 4294967297;", 9, 1);
        bad("first 4294967297;", 6, 1);
        bad("first 18446744073709551617;", 6, 1);
        bad("ladder " + "0".repeat(390) + "5 5", 7, 1);
    }

    private static void emptyGame() {
        due.says("game = { statement \";\" }");
        good("", 0);
        good(" ", 0);
        good("\n", 0);
        good(pad("", 400), 0);
        bad(";", 0, 1);
        bad("ladder 5 5;;", 11, 1);
        bad("ladder 5 5 ladder 5 5;", 11, 1);
        good("first 1;", 0);
        good("tokens 0 0 0;first 0;", 0);
        CoinLadders x = Due.game("ladder 5 5; first 1;");
        due.is("an empty text in place of a game", 0, () -> x.parse(0));
        due.is("no ladders", 0, () -> x.size(0));
        due.is("player 0", 0, () -> x.size(1));
        due.is("over", 1, () -> x.size(3));
    }

    private static void sixLadders() {
        due.says("There are at most 6 ladders, numbered from 0 in the order of the text;");
        String text = "";
        for (int i = 0; i < 6; i++) {
            int count = i + 1;
            text = text + "ladder " + (12 - i) + " " + count + "; ";
            CoinLadders x = Due.game(text);
            due.is("ladders", count, () -> x.size(0));
            for (int ladder = 0; ladder < count; ladder++) {
                int number = ladder;
                due.is("top of " + number, 12 - number, () -> x.ladder(number, 0));
                due.is("coin of " + number, 2 << number, () -> x.set(number, 0));
            }
            due.fails("no ladder " + count, INDEX, () -> x.ladder(count, 0));
        }
        bad(text + "ladder 1 1;", text.length(), 4);
        good(text + "lock 5 7;tokens 1 1 1;first 1;", 6);
    }

    private static void coins() {
        due.says("a ladder has 1 to 3 coins and 1 to 4 step sizes");
        bad("ladder 12;", 9, 1);
        bad("ladder 12 steps 1;", 10, 1);
        good("ladder 12 12;", 1);
        good("ladder 12 12 1;", 1);
        good("ladder 12 12 1 7;", 1);
        bad("ladder 12 12 1 7 2;", 17, 4);
        CoinLadders x = Due.game("ladder 3 2; ladder 3 2 1; ladder 3 2 1 3;");
        for (int i = 0; i < 3; i++) {
            int ladder = i;
            due.is("coins of " + ladder, ladder + 1, () -> x.ladder(ladder, 1));
        }
        due.is("three at once", 14, () -> x.set(2, 0));
    }

    private static void stepSizes() {
        due.says("1 to 4 step sizes (1, 2 and 3 without \"steps\")");
        bad("ladder 12 12 steps;", 18, 1);
        good("ladder 12 12 steps 12;", 1);
        good("ladder 12 12 steps 12 1 2 3;", 1);
        bad("ladder 12 12 steps 12 1 2 3 4;", 28, 4);
        CoinLadders x = Due.game("ladder 1 1; ladder 12 12 steps 1 2 3; ladder 12 12 steps 12 4 1 9; ladder 2 1 steps 2;");
        due.is("without steps", 14, () -> x.set(0, 2));
        due.is("the same with steps", 14, () -> x.set(1, 2));
        due.is("four", 1 << 12 | 1 << 4 | 1 << 1 | 1 << 9, () -> x.set(2, 2));
        due.is("one", 4, () -> x.set(3, 2));
    }

    private static void onceEach() {
        due.says("The statements tokens and first can each occur once.");
        good("tokens 1 1 1;first 1;ladder 1 1;", 1);
        good("first 1;ladder 1 1;tokens 1 1 1;", 1);
        bad("tokens 1 1 1;first 1;tokens 1 1 1;", 21, 3);
        bad("first 1;tokens 1 1 1;first 1;", 21, 3);
        CoinLadders x = Due.game("first 1; tokens 2 2 2;");
        due.is("again in the next text", 1, () -> Due.parse(x, "tokens 1 1 1; first 0; ladder 1 1;"));
        due.is("and behind an error", error(6, 2), () -> Due.parse(x, "first 2;"));
        due.is("and behind this error", 0, () -> Due.parse(x, "first 0; tokens 3 3 3;"));
    }

    private static void rangesOfALadder() {
        due.says("top 1 to 12, coin (the height at which a coin lies) 1 to top, step 1 to 12");
        for (int top = 0; top < 100; top++) {
            if (top >= 1 && top <= 12) {
                good("ladder " + top + " " + top + ";", 1);
                good("ladder " + top + " 1;", 1);
                bad("ladder " + top + " 0;", top < 10 ? 9 : 10, 2);
                bad("ladder " + top + " " + (top + 1) + ";", top < 10 ? 9 : 10, 2);
                good("ladder 1 1 steps " + top + ";", 1);
            } else {
                bad("ladder " + top + " 1;", 7, 2);
                bad("ladder 1 1 steps " + top + ";", 17, 2);
            }
        }
        bad("ladder 4 4 5;", 11, 2);
        bad("ladder 4 4 1 0;", 13, 2);
        bad("ladder 4 4 steps 1 0;", 19, 2);
        bad("ladder 4 4 steps 1 2 3 13;", 23, 2);
        bad("ladder 12 12; ladder 4 5;", 23, 2);
    }

    private static void rangesOfALock() {
        due.says("ladder the number of an earlier ladder, height (of a lock) 1 to the top of that ladder");
        bad("lock 0 1;", 5, 2);
        bad("lock 99 1;", 5, 2);
        bad("lock 0 1;ladder 5 5;", 5, 2);
        bad("ladder 5 5;lock 1 1;ladder 5 5;", 16, 2);
        good("ladder 5 5;ladder 5 5;lock 1 1;", 2);
        good(SIX + "lock 0 1;lock 5 6;", 6);
        bad(SIX + "lock 6 1;", SIX.length() + 5, 2);
        for (int ladder = 0; ladder < 6; ladder++) {
            int top = ladder + 1;
            String word = SIX + "lock " + ladder + " ";
            bad(word + "0;", word.length(), 2);
            bad(word + (top + 1) + ";", word.length(), 2);
            CoinLadders x = Due.game(word + top + ";" + (top > 1 ? word.substring(SIX.length()) + "1;" : ""));
            int number = ladder;
            due.is("locks of " + number, 1 << top | 2, () -> x.set(number, 1));
        }
        bad("ladder 12 12;ladder 3 3;lock 1 12;", 31, 2);
        good("ladder 12 12;ladder 3 3;lock 0 12;", 2);
    }

    private static void rangesOfTokens() {
        due.says("claims, locks and backs (what each player has) 0 to 9 (1 each without the statement)");
        for (int kind = 0; kind < 3; kind++) {
            int what = kind;
            for (int number = 0; number < 100; number++) {
                int[] three = {2, 2, 2};
                three[kind] = number;
                String text = "tokens " + three[0] + " " + three[1] + " " + three[2] + ";";
                if (number > 9) {
                    bad(text, 7 + 2 * kind, 2);
                    continue;
                }
                CoinLadders x = Due.game(text);
                for (int i = 0; i < 6; i++) {
                    int each = i;
                    due.is(text + " of kind " + i % 3, three[i % 3], () -> x.player(each / 3, each % 3));
                }
            }
            CoinLadders y = Due.game("ladder 1 1;");
            due.is("0 has 1", 1, () -> y.player(0, what));
            due.is("1 has 1", 1, () -> y.player(1, what));
        }
    }

    private static void rangesOfFirst() {
        due.says("player 0 or 1 (0)");
        due.is("0", 0, () -> Due.game("first 0;").size(1));
        due.is("1", 1, () -> Due.game("first 1;").size(1));
        due.is("without the statement", 0, () -> Due.game("ladder 1 1;").size(1));
        for (int player = 2; player < 100; player++) {
            bad("first " + player + ";", 6, 2);
        }
    }

    private static void lowestOffset() {
        due.says("The parser reports the error with the lowest byte offset;");
        bad("ladder 13 14;", 7, 2);
        bad("ladder 5 6 ?", 9, 2);
        bad("ladder 5 5 5 6;", 11, 3);
        bad("ladder ? 6;", 7, 1);
        bad("ladder 5 5 steps 13 13;", 17, 2);
        bad("ladder 5 1 2 3 4 ?", 15, 4);
        bad("ladder 5 5;lock 1 6;", 16, 2);
        bad("tokens 10 11 ?", 7, 2);
        bad("tokens 1 1 1;tokens 10 1 1;", 13, 3);
        bad("first 2;first 0;", 6, 2);
        bad("first ;?", 6, 1);
        bad(SIX + "ladder 13 1;", SIX.length(), 4);
    }

    private static void lowestKind() {
        due.says("of several kinds at one offset the lowest");
        bad("ladder 5 1 2 3 ?;", 15, 1);
        bad("ladder 5 1 2 3 111;", 15, 1);
        bad("ladder 5 1 2 3 6;", 15, 2);
        bad("ladder 5 1 2 3 0;", 15, 2);
        bad("ladder 5 1 2 3 1;", 15, 3);
        bad("ladder 5 1 2 3 3;", 15, 3);
        bad("ladder 5 1 2 3 5;", 15, 4);
        bad("ladder 5 1 steps 1 2 3 4 ?;", 25, 1);
        bad("ladder 5 1 steps 1 2 3 4 000;", 25, 1);
        bad("ladder 5 1 steps 1 2 3 4 0;", 25, 2);
        bad("ladder 5 1 steps 1 2 3 4 13;", 25, 2);
        bad("ladder 5 1 steps 1 2 3 4 1;", 25, 3);
        bad("ladder 5 1 steps 1 2 3 4 4;", 25, 3);
        bad("ladder 5 1 steps 1 2 3 4 12;", 25, 4);
        // a fourth coin above the top, which would be a good step size
        bad("ladder 3 1 2 3 4 steps 1;", 15, 2);
    }

    private static void wrongToken() {
        due.says("1 (syntax): an illegal token, a token that cannot continue a game;");
        String[] places = {"", "ladder ", "ladder 5 ", "ladder 5 5 ", "ladder 5 5 steps ", "ladder 5 5 steps 1 ",
            "ladder 5 5;", "ladder 5 5;lock ", "ladder 5 5;lock 0 ", "ladder 5 5;lock 0 1 ", "tokens ", "tokens 1 ",
            "tokens 1 1 ", "tokens 1 1 1 ", "first ", "first 1 "};
        String numberCan = "0111110110111010";
        String semicolonCan = "0001010001000101";
        for (int i = 0; i < places.length; i++) {
            int offset = places[i].length();
            bad(places[i] + "?", offset, 1);
            bad(places[i] + "word;", offset, 1);
            bad(places[i] + "001;", offset, 1);
            if (semicolonCan.charAt(i) == '0') {
                bad(places[i] + ";", offset, 1);
            } else {
                good(places[i] + ";", places[i].charAt(0) == 'l' ? 1 : 0);
            }
            if (numberCan.charAt(i) == '0') {
                bad(places[i] + "1;", offset, 1);
            }
            if (i != 0 && i != 6) {
                bad(places[i] + "ladder 5 5;", offset, 1);
                bad(places[i] + "first 1;", offset, 1);
            }
            if (i != 3) {
                bad(places[i] + "steps 1;", offset, 1);
            }
        }
    }

    private static void endsTooEarly() {
        due.says("if the text ends too early, the offset is the length of the text");
        String[] places = {"ladder", "ladder 5", "ladder 5 5", "ladder 5 5 4", "ladder 5 5 steps", "ladder 5 5 steps 1",
            "ladder 5 5;lock", "ladder 5 5;lock 0", "ladder 5 5;lock 0 1", "tokens", "tokens 1", "tokens 1 1",
            "tokens 1 1 1", "first", "first 1"};
        for (String each : places) {
            bad(each, each.length(), 1);
            bad(each + " ", each.length() + 1, 1);
            bad(each + " \n\n", each.length() + 3, 1);
            bad(pad(each, 400), 400, 1);
        }
    }

    /** What stands before a prefix's last token is good, so that the error is the token itself or the end. */
    private static void eachPrefix() {
        due.says("Parses the first length bytes of the input buffer as a game");
        String text = "ladder 12 11 9 10 steps 12 3 2 11;lock 0 10;tokens 1 2 3;first 1;";
        for (int length = 0; length <= text.length(); length++) {
            String prefix = text.substring(0, length);
            String last = prefix.substring(prefix.lastIndexOf(' ') + 1);
            last = last.substring(last.lastIndexOf(';') + 1);
            boolean whole = prefix.isEmpty() || prefix.endsWith(";");
            boolean cutWord = last.matches("[a-z]+") && !last.matches("ladder|steps|lock|tokens|first");
            int ladders = length > text.indexOf(';') ? 1 : 0;
            int offset = cutWord ? length - last.length() : length;
            CoinLadders x = new CoinLadders();
            Due.append(x, text);
            int size = length;
            due.is("parse of " + prefix, whole ? ladders : error(offset, 1), () -> x.parse(size));
        }
    }

    private static void repeatedCoin() {
        due.says("a coin at a height of an earlier coin of the same ladder");
        bad("ladder 5 1 1;", 11, 3);
        bad("ladder 12 12 12;", 13, 3);
        bad("ladder 5 1 2 1;", 13, 3);
        bad("ladder 5 1 2 2;", 13, 3);
        bad("ladder 5 1 01;", 11, 3);
        good("ladder 5 1 2 3;ladder 5 1 2 3;", 2);
        good("ladder 1 1 steps 1;", 1);
    }

    private static void repeatedSize() {
        due.says("a step size that the ladder has already");
        bad("ladder 5 1 steps 1 1;", 19, 3);
        bad("ladder 5 1 steps 12 12;", 20, 3);
        bad("ladder 5 1 steps 3 2 1 3;", 23, 3);
        bad("ladder 5 1 steps 3 2 1 1;", 23, 3);
        good("ladder 5 1 steps 1;ladder 5 1 steps 1;", 2);
        good("ladder 5 4 5 1 steps 5 1 4;", 1);
    }

    private static void repeatedLock() {
        due.says("the height of a lock that is locked already");
        bad("ladder 5 5;lock 0 1;lock 0 1;", 27, 3);
        bad("ladder 5 5;lock 0 5;lock 0 1;lock 0 05;", 36, 3);
        good("ladder 5 5;lock 0 5;", 1);
        good("ladder 5 5;lock 0 1;lock 0 2;lock 0 3;lock 0 4;lock 0 5;", 1);
        good("ladder 5 5;ladder 5 5;lock 0 1;lock 1 1;", 2);
        CoinLadders x = Due.game("ladder 5 5;lock 0 2;");
        due.is("a lock of the game before does not count", 1, () -> Due.parse(x, "ladder 5 5;lock 0 2;"));
        due.is("nor one of a wrong text", error(18, 2), () -> Due.parse(x, "ladder 5 5;lock 0 6;"));
        due.is("nor one of this wrong text", error(20, 1), () -> Due.parse(x, "ladder 5 5;lock 0 3;?"));
        due.is("the same again", 1, () -> Due.parse(x, "ladder 5 5;lock 0 3;lock 0 2;"));
    }

    private static void repeatedWord() {
        due.says("the word of a second tokens or first");
        bad("tokens 1 1 1;tokens", 13, 3);
        bad("tokens 1 1 1; tokens ?", 14, 3);
        bad("first 1;first", 8, 3);
        bad("first 0;\n\nfirst 9;", 10, 3);
        bad("first 0;firsts", 8, 1);
        bad("tokens 1 1 1 tokens 1 1 1;", 13, 1);
        bad("first 0 first 0;", 8, 1);
    }

    private static void tooMany() {
        due.says("4 (too many): the word of a seventh ladder; a fourth coin or a fifth step size of a ladder");
        bad(SIX + "ladder", SIX.length(), 4);
        bad(SIX + "\n ladder ?", SIX.length() + 2, 4);
        bad(SIX + "first 1;ladder 5 5;", SIX.length() + 8, 4);
        bad(SIX + "ladde", SIX.length(), 1);
        bad("ladder 12 1 2 3 12", 16, 4);
        bad("ladder 12 1 steps 1 2 3 4 12", 26, 4);
        good("ladder 12 1 2 3 steps 4 5 6 7;", 1);
        good("ladder 12 1 2 steps 4 5 6 7;ladder 12 1 2 3;", 2);
    }

    private static void wrongLength() {
        due.says("Throws `IllegalArgumentException` if length is out of range (the buffer stays as it is)");
        int[] wrong = {-1, 21, 400, 401, LEAST, GREATEST};
        for (int length : wrong) {
            CoinLadders x = Due.game("ladder 3 3; first 1;");
            x.claim(0);
            Due.append(x, "ladder 7 7;");
            due.failsAndLeaves("parse(" + length + ")", ARGUMENT, x, () -> x.parse(length));
            due.is("the buffer is as it was", 1, () -> x.parse(11));
            due.is("and is read", 7, () -> x.ladder(0, 0));
            due.fails("now it is empty", ARGUMENT, () -> x.parse(1));
        }
    }

    private static void onlyTheFirstBytes() {
        due.says("`length`: number of bytes, 0 to the length of the buffer");
        CoinLadders x = new CoinLadders();
        Due.append(x, "ladder 7 7; first ?");
        due.is("only the good part", 1, () -> x.parse(11));
        Due.append(x, "ladder 1 1;");
        due.is("no bytes of a full buffer", 0, () -> x.parse(0));
        due.is("an empty game", 0, () -> x.size(0));
        Due.append(x, "ladder 12 12 11 1;  ");
        due.is("all bytes", 1, () -> x.parse(20));
        Due.append(x, "ladder 12 12 11 1;  ");
        due.is("without the semicolon", error(17, 1), () -> x.parse(17));
    }

    private static void emptyBehindParse() {
        due.says("After a success or a syntax error the whole buffer is empty.");
        CoinLadders x = new CoinLadders();
        Due.append(x, "ladder 7 7; ladder 8 8; ladder 9 9;");
        due.is("a part is read", 1, () -> x.parse(11));
        due.fails("the rest is gone", ARGUMENT, () -> x.parse(1));
        due.is("append behind a success", 20, () -> spaces(x));
        spaces(x);
        due.is("the appended ones are read", 0, () -> x.parse(40));
        Due.append(x, "?ladder 7 7; ladder 8 8;");
        due.is("a part with an error", error(0, 1), () -> x.parse(1));
        due.fails("the rest is gone, too", ARGUMENT, () -> x.parse(1));
        due.is("append behind an error", 20, () -> spaces(x));
        due.is("no bytes", 0, () -> x.parse(0));
        due.is("append behind parse(0)", 20, () -> spaces(x));
    }

    private static void answerOfAnError() {
        due.says("-2 - (8 * offset + kind) for a syntax error");
        CoinLadders x = new CoinLadders();
        due.is("the lowest offset", -3, () -> Due.parse(x, "?"));
        due.is("kind 2", -2 - 50, () -> Due.parse(x, "first 2;"));
        due.is("kind 3", -2 - 67, () -> Due.parse(x, "first 1;first"));
        due.is("kind 4", -2 - 124, () -> Due.parse(x, "ladder 5 1 2 3 4"));
        due.is("the highest offset", -2 - 3201, () -> Due.parse(x, pad("first", 400)));
        due.is("the last byte", -2 - 3193, () -> Due.parse(x, pad("", 399) + "?"));
    }

    private static void errorLeavesAll() {
        due.says("After a syntax error everything else stays as it is.");
        CoinLadders x = Due.game("ladder 9 9 8 steps 1 4; ladder 5 5 steps 2; lock 0 3; tokens 2 3 4; first 1;");
        x.saveSnapshot(0);
        x.claim(1);
        x.step(0, 8, 1);
        x.back();
        x.saveSnapshot(1);
        String before = Look.at(x);
        String[] texts = {"?", "ladder 1 1;?", "ladder 12 1 2 3 4;", "ladder 5 5;lock 0 2;lock 0 2;", "first 0;first 0;",
            "tokens 9 9 9;tokens 9 9 9;", SIX + "lock 0 1;ladder 1 1;", "ladder 2 2;tokens 0 0 0;first 0;lock 1 1;"};
        for (String text : texts) {
            due.isTrue("an error in " + text, Due.parse(x, text) < -2);
        }
        due.isTrue("all is as before", Look.at(x).equals(before));
        due.is("the changes can be undone", 2, () -> x.undo());
        due.is("the step is undone", 1, () -> x.undo());
        due.is("the claim is undone", 0, () -> x.undo());
        due.is("slot 1", 1, () -> x.restoreSnapshot(1) ? 1 : 0);
        due.isTrue("what it holds", (Look.atState(x) + 3).equals(before));
        due.is("slot 0", 1, () -> x.restoreSnapshot(0) ? 1 : 0);
        due.is("it holds the beginning", 0, () -> x.size(2));
    }

    private static void newGameBehindParse() {
        due.says("A successful parse begins a new game, clears the undo history and empties both slots.");
        String[] texts = {"", "ladder 9 9 8; ladder 5 5;", "first 1;ladder 4 4 3 2;tokens 0 1 2;"};
        for (String text : texts) {
            CoinLadders x = Due.game("ladder 9 9 8; ladder 5 5 steps 2; lock 0 3; tokens 2 3 4; first 1;");
            x.lock(1, 1);
            x.claim(1);
            x.step(0, 9, 2);
            x.back();
            x.saveSnapshot(0);
            x.saveSnapshot(1);
            due.isTrue("parse of " + text, Due.parse(x, text) >= 0);
            due.isTrue("as a new object's", Look.at(x).equals(Look.at(Due.game(text))));
            due.is("undo", -1, () -> x.undo());
            due.is("slot 0", 0, () -> x.restoreSnapshot(0) ? 1 : 0);
            due.is("slot 1", 0, () -> x.restoreSnapshot(1) ? 1 : 0);
            due.isTrue("still as a new object's", Look.at(x).equals(Look.at(Due.game(text))));
        }
    }

    private static int spaces(CoinLadders x) {
        return x.append(FOUR_SPACES, FOUR_SPACES, FOUR_SPACES, FOUR_SPACES, FOUR_SPACES);
    }

    private static String pad(String text, int length) {
        return text + " ".repeat(length - text.length());
    }

    private static int error(int offset, int kind) {
        return -2 - (8 * offset + kind);
    }

    private static void good(String text, int ladders) {
        due.is("parse of " + text, ladders, () -> Due.parse(new CoinLadders(), text));
    }

    private static void bad(String text, int offset, int kind) {
        due.is("parse of " + text, error(offset, kind), () -> Due.parse(new CoinLadders(), text));
    }
}
