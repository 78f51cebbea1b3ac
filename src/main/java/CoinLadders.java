import java.util.Arrays;

/** Ladders of coins: a game of two players who let coins go down ladders by steps of allowed sizes. */
public final class CoinLadders {
    public static final int NONE = -1;

    private static final int BUFFER = 400;
    private static final int LADDERS = 6;
    private static final int HIGHEST = 12;
    private static final int MOST_COINS = 3;
    private static final int MOST_SIZES = 4;
    private static final int USUAL_SIZES = 14;
    private static final int MOST_STEPS = MOST_COINS * MOST_SIZES;
    private static final int PLAYERS = 2;
    private static final int CLAIM_LASTS = 3;
    private static final int MOST_PLAYED = 60;

    /** Sets of at most three heights from 1 to 12. */
    private static final int POSITIONS = 299;

    /** At 13 * (n - 1) + h: how many sets of at most n heights lie wholly below height h. */
    private static final int[] SETS_BELOW = {
        0, 1, 2, 3, 4, 5, 6, 7, 8, 9, 10, 11, 12,
        0, 1, 2, 4, 7, 11, 16, 22, 29, 37, 46, 56, 67,
        0, 1, 2, 4, 8, 15, 26, 42, 64, 93, 130, 176, 232
    };

    private static final int STEP = 0;
    private static final int CLAIM = 1;
    private static final int LOCK = 2;
    private static final int BACK = 3;
    private static final int PASS = 4;

    private static final int TOKEN_KINDS = 3;
    private static final int CLAIM_TOKENS = 0;
    private static final int LOCK_TOKENS = 1;
    private static final int BACK_TOKENS = 2;

    private static final int COUNT_KINDS = 3;
    private static final int STEPS_MADE = 0;
    private static final int SIZES_MADE = 1;
    private static final int PASSES_MADE = 2;

    private static final int ACTS_KEPT = 16;
    private static final int ACT_PARTS = 5;
    private static final int ACT_KIND = 0;
    private static final int ACT_PLAYER = 1;
    private static final int ACT_LADDER = 2;
    private static final int ACT_HEIGHT = 3;
    private static final int ACT_SIZE = 4;

    private static final int CHANGES_KEPT = 10;
    private static final int SLOTS = 2;

    private final GameText text;
    private final Game game;
    private final History history;

    public CoinLadders() {
        text = new GameText();
        game = new Game();
        history = new History();
    }

    public int append(int a, int b, int c, int d, int e) {
        if (text.length + 20 > BUFFER) {
            return NONE;
        }
        text.addFour(a);
        text.addFour(b);
        text.addFour(c);
        text.addFour(d);
        text.addFour(e);
        return text.length;
    }

    public int parse(int length) throws IllegalArgumentException {
        if (length < 0 || length > text.length) {
            throw new IllegalArgumentException("length is out of range");
        }
        int fault = text.readGame(length);
        if (fault != 0) {
            return -2 - fault;
        }
        game.begin(text.draft);
        history.forgetAll();
        return game.setup.count;
    }

    public int size(int what) throws IllegalArgumentException {
        checkWhat(what, 5);
        switch (what) {
            case 0: return game.setup.count;
            case 1: return game.now.player;
            case 2: return game.now.acts;
            case 3: return game.isOver() ? 1 : 0;
            case 4: return game.isOver() ? 1 - game.now.player : NONE;
            default: return history.changes;
        }
    }

    public int ladder(int ladder, int what) throws IndexOutOfBoundsException, IllegalArgumentException {
        checkLadder(ladder);
        checkWhat(what, 5);
        switch (what) {
            case 0: return game.setup.tops[ladder];
            case 1: return game.setup.coinCounts[ladder];
            case 2: return game.setup.coinCounts[ladder] - Integer.bitCount(game.now.coins[ladder]);
            case 3: return game.valueNow(ladder);
            case 4: return game.now.claimers[ladder];
            default: return game.now.claimsLeft[ladder];
        }
    }

    public int set(int ladder, int what) throws IndexOutOfBoundsException, IllegalArgumentException {
        checkLadder(ladder);
        checkWhat(what, 2);
        switch (what) {
            case 0: return game.now.coins[ladder];
            case 1: return game.now.locks[ladder];
            default: return game.setup.sizes[ladder];
        }
    }

    public int player(int player, int what) throws IndexOutOfBoundsException, IllegalArgumentException {
        if (player < 0 || player >= PLAYERS) {
            throw new IndexOutOfBoundsException("there is no such player");
        }
        checkWhat(what, 5);
        if (what < TOKEN_KINDS) {
            return game.now.tokens[player * TOKEN_KINDS + what];
        }
        return game.now.counts[player * COUNT_KINDS + what - TOKEN_KINDS];
    }

    public int act(int k, int what) throws IllegalArgumentException {
        checkWhat(what, 4);
        return game.now.pastAct(k, what);
    }

    public int valueOf(int ladder, int coins) throws IndexOutOfBoundsException, IllegalArgumentException {
        checkLadder(ladder);
        int heights = (2 << game.setup.tops[ladder]) - 2;
        if ((coins & ~heights) != 0 || Integer.bitCount(coins) > game.setup.coinCounts[ladder]) {
            throw new IllegalArgumentException("coins cannot lie so");
        }
        return game.valueWith(ladder, coins);
    }

    public int sum() {
        return game.sumNow();
    }

    public int stepsOn(int ladder) throws IndexOutOfBoundsException {
        checkLadder(ladder);
        return game.countSteps(ladder);
    }

    public int longest(int ladder) throws IndexOutOfBoundsException {
        checkLadder(ladder);
        game.explore(ladder);
        return game.reach.farthest();
    }

    public int positions(int ladder) throws IndexOutOfBoundsException {
        checkLadder(ladder);
        game.explore(ladder);
        return game.reach.countPositions();
    }

    public double meanValue(int ladder) throws IndexOutOfBoundsException {
        checkLadder(ladder);
        game.explore(ladder);
        double total = (double) game.sumOfReachedValues(ladder);
        int count = game.reach.countPositions();
        return count == 0 ? 0.0 : total / count;
    }

    public boolean isRight() {
        boolean right = true;
        for (int ladder = 0; ladder < game.setup.count; ladder++) {
            right = right && game.hasRightValue(ladder);
        }
        return right;
    }

    public int allowed() {
        return game.listChoices();
    }

    public int choice(int k, int what) throws IndexOutOfBoundsException, IllegalArgumentException {
        int count = game.listChoices();
        if (k < 0 || k >= count) {
            throw new IndexOutOfBoundsException("there is no such step");
        }
        checkWhat(what, 3);
        int chosen = game.choices[k];
        switch (what) {
            case 0: return Game.ladderOf(chosen);
            case 1: return Game.heightOf(chosen);
            case 2: return Game.sizeOf(chosen);
            default: return game.sumNow() ^ game.changeOfValue(chosen);
        }
    }

    public int best() {
        return game.firstWinning(game.listChoices(), game.sumNow());
    }

    public int whyNotStep(int ladder, int height, int size) {
        return game.isOver() ? 1 : game.reasonAgainstStep(ladder, height, size);
    }

    public int whyNotClaim(int ladder) {
        return game.reasonAgainstClaim(ladder);
    }

    public int whyNotLock(int ladder, int height) {
        return game.reasonAgainstLock(ladder, height);
    }

    public int whyNotBack() {
        return game.reasonAgainstBack();
    }

    public int step(int ladder, int height, int size) throws IllegalArgumentException {
        if (whyNotStep(ladder, height, size) != 0) {
            throw new IllegalArgumentException("this step cannot be made");
        }
        history.keep(game.now);
        game.makeStep(ladder, height, size);
        return game.sumNow();
    }

    public int claim(int ladder) throws IllegalArgumentException {
        if (whyNotClaim(ladder) != 0) {
            throw new IllegalArgumentException("this ladder cannot be claimed");
        }
        history.keep(game.now);
        return game.makeClaim(ladder);
    }

    public int lock(int ladder, int height) throws IllegalArgumentException {
        if (whyNotLock(ladder, height) != 0) {
            throw new IllegalArgumentException("this height cannot be locked");
        }
        history.keep(game.now);
        game.makeLock(ladder, height);
        return game.valueNow(ladder);
    }

    public int back() throws IllegalStateException {
        if (whyNotBack() != 0) {
            throw new IllegalStateException("nothing can be taken back");
        }
        history.keep(game.now);
        game.takeBack();
        return game.sumNow();
    }

    public int pass() throws IllegalStateException {
        if (game.isOver() || game.listChoices() > 0) {
            throw new IllegalStateException("passing is not allowed");
        }
        history.keep(game.now);
        game.makePass();
        return game.now.player;
    }

    public int play(int acts) throws IllegalArgumentException {
        if (acts < 1 || acts > MOST_PLAYED) {
            throw new IllegalArgumentException("acts is out of range");
        }
        history.keep(game.now);
        int made = 0;
        while (made < acts && !game.isOver()) {
            int count = game.listChoices();
            game.makeBestOrPass(count, game.firstWinning(count, game.sumNow()));
            made++;
        }
        return made;
    }

    public int undo() {
        return history.goBack(game.now);
    }

    public boolean saveSnapshot(int slot) {
        return history.saveInto(slot, game.now);
    }

    public boolean restoreSnapshot(int slot) {
        return history.restoreFrom(slot, game.now);
    }

    private void checkLadder(int ladder) {
        if (!game.setup.hasLadder(ladder)) {
            throw new IndexOutOfBoundsException("there is no such ladder");
        }
    }

    private static void checkWhat(int what, int last) {
        if (what < 0 || what > last) {
            throw new IllegalArgumentException("what is out of range");
        }
    }

    private static boolean hasBit(int bits, int k) {
        return (bits >> k & 1) != 0;
    }

    /** The coins behind a step; bit 0 is left out, because many coins can lie on the ground. */
    private static int moved(int coins, int from, int to) {
        return (coins & ~(1 << from) | 1 << to) & ~1;
    }

    /** What a text says of a game before its first act. */
    private static final class Setup {
        final int[] tops = new int[LADDERS];
        final int[] coinCounts = new int[LADDERS];
        final int[] sizes = new int[LADDERS];
        final int[] coins = new int[LADDERS];
        final int[] locks = new int[LADDERS];
        final int[] tokens = {1, 1, 1};
        int count;
        int first;

        void clear() {
            Arrays.fill(locks, 0);
            Arrays.fill(tokens, 1);
            count = 0;
            first = 0;
        }

        boolean hasLadder(int ladder) {
            return ladder >= 0 && ladder < count && ladder < LADDERS;
        }

        void copyFrom(Setup other) {
            System.arraycopy(other.tops, 0, tops, 0, LADDERS);
            System.arraycopy(other.coinCounts, 0, coinCounts, 0, LADDERS);
            System.arraycopy(other.sizes, 0, sizes, 0, LADDERS);
            System.arraycopy(other.coins, 0, coins, 0, LADDERS);
            System.arraycopy(other.locks, 0, locks, 0, LADDERS);
            System.arraycopy(other.tokens, 0, tokens, 0, TOKEN_KINDS);
            count = other.count;
            first = other.first;
        }
    }

    /** The input buffer, and the reading of a game from it. */
    private static final class GameText {
        private static final int END = 0;
        private static final int ILLEGAL = 1;
        private static final int WORD = 2;
        private static final int NUMBER = 3;
        private static final int SEMICOLON = 4;

        private static final int LONGEST_WORD = 8;
        private static final int LONGEST_NUMBER = 2;

        private static final int SYNTAX = 1;
        private static final int RANGE = 2;
        private static final int REPEATED = 3;
        private static final int TOO_MANY = 4;

        final Setup draft = new Setup();
        int length;
        private final byte[] bytes = new byte[BUFFER];
        private int limit;
        private int at;
        private int token;
        private int start;
        private int number;
        private int fault;
        private boolean hasTokens;
        private boolean hasFirst;

        void addFour(int four) {
            for (int shift = 24; shift >= 0 && length < BUFFER; shift -= 8) {
                bytes[length] = (byte) (four >> shift);
                length++;
            }
        }

        /** Reads a game into the draft and empties the buffer; answers 0, or 8 * offset + kind of the error. */
        int readGame(int textLength) {
            limit = Math.min(textLength, BUFFER);
            at = 0;
            fault = 0;
            hasTokens = false;
            hasFirst = false;
            draft.clear();
            nextToken();
            for (int n = 0; n <= BUFFER && token != END && fault == 0; n++) {
                readStatement();
            }
            length = 0;
            return fault;
        }

        private void readStatement() {
            boolean good;
            if (isWord("ladder")) {
                good = readLadder();
            } else if (isWord("lock")) {
                good = readLock();
            } else if (isWord("tokens")) {
                good = readTokens();
            } else if (isWord("first")) {
                good = readFirst();
            } else {
                good = fail(SYNTAX);
            }
            if (good) {
                readSemicolon();
            }
        }

        private void readSemicolon() {
            if (token == SEMICOLON) {
                nextToken();
            } else {
                fail(SYNTAX);
            }
        }

        private boolean readLadder() {
            int ladder = draft.count;
            if (ladder >= LADDERS) {
                return fail(TOO_MANY);
            }
            nextToken();
            if (!isNumber(1, HIGHEST)) {
                return false;
            }
            int top = number;
            nextToken();
            int coins = readSet(top, MOST_COINS);
            int sizes = USUAL_SIZES;
            if (fault == 0 && isWord("steps")) {
                nextToken();
                sizes = readSet(HIGHEST, MOST_SIZES);
            }
            if (fault != 0) {
                return false;
            }
            draft.tops[ladder] = top;
            draft.coinCounts[ladder] = Integer.bitCount(coins);
            draft.coins[ladder] = coins;
            draft.sizes[ladder] = sizes;
            draft.count = ladder + 1;
            return true;
        }

        /** Reads different numbers from 1 on as bits: one at least, and all that follow. */
        private int readSet(int highest, int most) {
            int bits = 0;
            for (int n = 0; n <= most && (n == 0 || token == NUMBER); n++) {
                if (!isNumber(1, highest)) {
                    return 0;
                }
                if (hasBit(bits, number)) {
                    fail(REPEATED);
                    return 0;
                }
                if (n == most) {
                    fail(TOO_MANY);
                    return 0;
                }
                bits |= 1 << number;
                nextToken();
            }
            return bits;
        }

        private boolean readLock() {
            nextToken();
            if (!isNumber(0, draft.count - 1)) {
                return false;
            }
            int ladder = number;
            nextToken();
            if (!draft.hasLadder(ladder) || !isNumber(1, draft.tops[ladder])) {
                return false;
            }
            if (hasBit(draft.locks[ladder], number)) {
                return fail(REPEATED);
            }
            draft.locks[ladder] |= 1 << number;
            nextToken();
            return true;
        }

        private boolean readTokens() {
            if (hasTokens) {
                return fail(REPEATED);
            }
            hasTokens = true;
            nextToken();
            for (int kind = 0; kind < TOKEN_KINDS; kind++) {
                if (!isNumber(0, 9)) {
                    return false;
                }
                draft.tokens[kind] = number;
                nextToken();
            }
            return true;
        }

        private boolean readFirst() {
            if (hasFirst) {
                return fail(REPEATED);
            }
            hasFirst = true;
            nextToken();
            if (!isNumber(0, PLAYERS - 1)) {
                return false;
            }
            draft.first = number;
            nextToken();
            return true;
        }

        private boolean fail(int kind) {
            fault = 8 * start + kind;
            return false;
        }

        private boolean isNumber(int lowest, int highest) {
            if (token != NUMBER) {
                return fail(SYNTAX);
            }
            return number >= lowest && number <= highest || fail(RANGE);
        }

        private boolean isWord(String word) {
            if (token != WORD || at - start != word.length()) {
                return false;
            }
            for (int i = 0; i < word.length() && start + i < limit; i++) {
                if (bytes[start + i] != word.charAt(i)) {
                    return false;
                }
            }
            return true;
        }

        private void nextToken() {
            while (at < limit && isWhite(bytes[at])) {
                at++;
            }
            start = at;
            if (at >= limit) {
                token = END;
            } else if (isLetter(bytes[at])) {
                while (at < limit && isLetter(bytes[at])) {
                    at++;
                }
                token = at - start <= LONGEST_WORD ? WORD : ILLEGAL;
            } else if (isDigit(bytes[at])) {
                number = 0;
                while (at < limit && isDigit(bytes[at])) {
                    number = 10 * number + bytes[at] - '0';
                    at++;
                }
                token = at - start <= LONGEST_NUMBER ? NUMBER : ILLEGAL;
            } else {
                token = bytes[at] == ';' ? SEMICOLON : ILLEGAL;
                at++;
            }
        }

        private static boolean isWhite(int b) {
            return b == ' ' || b == '\n';
        }

        private static boolean isLetter(int b) {
            return b >= 'a' && b <= 'z';
        }

        private static boolean isDigit(int b) {
            return b >= '0' && b <= '9';
        }
    }

    /** All that the changes of a game can change. */
    private static final class State {
        final int[] coins = new int[LADDERS];
        final int[] locks = new int[LADDERS];
        final int[] claimers = new int[LADDERS];
        final int[] claimsLeft = new int[LADDERS];
        final int[] tokens = new int[PLAYERS * TOKEN_KINDS];
        final int[] counts = new int[PLAYERS * COUNT_KINDS];
        final int[] log = new int[ACTS_KEPT * ACT_PARTS];
        int player;
        int acts;
        int bannedLadder;
        int bannedHeight;
        int bannedSize;

        State() {
            Arrays.fill(claimers, NONE);
            Arrays.fill(tokens, 1);
            ban(NONE, NONE, NONE);
        }

        void begin(Setup setup) {
            System.arraycopy(setup.coins, 0, coins, 0, LADDERS);
            System.arraycopy(setup.locks, 0, locks, 0, LADDERS);
            Arrays.fill(claimers, NONE);
            Arrays.fill(claimsLeft, 0);
            for (int i = 0; i < PLAYERS; i++) {
                System.arraycopy(setup.tokens, 0, tokens, i * TOKEN_KINDS, TOKEN_KINDS);
            }
            Arrays.fill(counts, 0);
            player = setup.first;
            acts = 0;
            ban(NONE, NONE, NONE);
        }

        void copyFrom(State other) {
            System.arraycopy(other.coins, 0, coins, 0, LADDERS);
            System.arraycopy(other.locks, 0, locks, 0, LADDERS);
            System.arraycopy(other.claimers, 0, claimers, 0, LADDERS);
            System.arraycopy(other.claimsLeft, 0, claimsLeft, 0, LADDERS);
            System.arraycopy(other.tokens, 0, tokens, 0, PLAYERS * TOKEN_KINDS);
            System.arraycopy(other.counts, 0, counts, 0, PLAYERS * COUNT_KINDS);
            System.arraycopy(other.log, 0, log, 0, ACTS_KEPT * ACT_PARTS);
            player = other.player;
            acts = other.acts;
            ban(other.bannedLadder, other.bannedHeight, other.bannedSize);
        }

        void ban(int ladder, int height, int size) {
            bannedLadder = ladder;
            bannedHeight = height;
            bannedSize = size;
        }

        boolean isBanned(int ladder, int height, int size) {
            return ladder == bannedLadder && height == bannedHeight && size == bannedSize;
        }

        /** A part of the latest act (k = 0) or of an earlier one; NONE if it is not kept. */
        int pastAct(int k, int part) {
            if (k < 0 || k >= Math.min(acts, ACTS_KEPT)) {
                return NONE;
            }
            return log[(acts - 1 - k) % ACTS_KEPT * ACT_PARTS + part];
        }

        int tokensOf(int kind) {
            return tokens[player * TOKEN_KINDS + kind];
        }

        void spendToken(int kind) {
            tokens[player * TOKEN_KINDS + kind]--;
        }

        void addToCount(int kind, int amount) {
            counts[player * COUNT_KINDS + kind] += amount;
        }

        /** What every act does besides its own effect: it is logged, claims get shorter, a ban ends, the turn goes over. */
        void finishAct(int kind, int ladder, int height, int size) {
            int row = acts % ACTS_KEPT * ACT_PARTS;
            log[row + ACT_KIND] = kind;
            log[row + ACT_PLAYER] = player;
            log[row + ACT_LADDER] = ladder;
            log[row + ACT_HEIGHT] = height;
            log[row + ACT_SIZE] = size;
            acts++;
            shortenClaims();
            ban(NONE, NONE, NONE);
            player = 1 - player;
        }

        private void shortenClaims() {
            for (int ladder = 0; ladder < LADDERS; ladder++) {
                if (claimsLeft[ladder] > 0) {
                    claimsLeft[ladder]--;
                }
                if (claimsLeft[ladder] == 0) {
                    claimers[ladder] = NONE;
                }
            }
        }
    }

    /** All sets of heights at which coins can lie, by ascending bits: a step always leads to a lower rank. */
    private static final class Positions {
        final int[] masks = new int[POSITIONS];
        final int[] behind = new int[MOST_STEPS];

        Positions() {
            int rank = 0;
            for (int high = 0; high <= HIGHEST; high++) {
                for (int middle = 0; middle == 0 || middle < high; middle++) {
                    for (int low = 0; (low == 0 || low < middle) && rank < POSITIONS; low++) {
                        masks[rank] = (1 << high | 1 << middle | 1 << low) & ~1;
                        rank++;
                    }
                }
            }
        }

        static int rankOf(int mask) {
            int rank = 0;
            int left = MOST_COINS;
            for (int height = HIGHEST; height > 0 && left > 0; height--) {
                if ((mask >> height & 1) != 0) {
                    left--;
                    rank += SETS_BELOW[left * (HIGHEST + 1) + height];
                }
            }
            return rank < POSITIONS ? rank : 0;
        }

        /** Lists the ranks of the positions one step behind, and answers how many there are. */
        int listBehind(int mask, int sizes, int locks) {
            int found = 0;
            for (int size = 1; size <= HIGHEST; size++) {
                int targets = hasBit(sizes, size) ? targetsOf(mask, locks, size) : 0;
                for (int to = 0; to < HIGHEST && targets >> to != 0; to++) {
                    if (hasBit(targets, to) && found < MOST_STEPS) {
                        behind[found] = rankOf(moved(mask, to + size, to));
                        found++;
                    }
                }
            }
            return found;
        }

        /** The heights that can be reached by a step of a size; the ground is never in mask or locks. */
        static int targetsOf(int mask, int locks, int size) {
            return mask >> size & ~(mask | locks);
        }
    }

    /** The values of the positions of one ladder, kept as long as its sizes and locks stay the same. */
    private static final class LadderValues {
        private final int[] values = new int[POSITIONS];
        private int coinCount;
        private int sizes;
        private int locks;
        private int filled;

        void setFor(int newCoinCount, int newSizes, int newLocks) {
            if (coinCount != newCoinCount || sizes != newSizes || locks != newLocks) {
                coinCount = newCoinCount;
                sizes = newSizes;
                locks = newLocks;
                filled = 0;
            }
        }

        int valueAt(Positions all, int rank) {
            for (; filled <= rank && filled < POSITIONS; filled++) {
                int mask = all.masks[filled];
                values[filled] = Integer.bitCount(mask) > coinCount ? 0 : firstMissing(valuesBehind(all, mask));
            }
            return rank >= 0 && rank < POSITIONS ? values[rank] : 0;
        }

        /** The values that one step leads to, as bits; the ranks below that of mask must be filled. */
        private int valuesBehind(Positions all, int mask) {
            int seen = 0;
            int count = all.listBehind(mask, sizes, locks);
            for (int i = 0; i < count; i++) {
                seen |= 1 << values[all.behind[i]];
            }
            return seen;
        }

        private static int firstMissing(int seen) {
            int value = 0;
            while (value <= MOST_STEPS && hasBit(seen, value)) {
                value++;
            }
            return value;
        }

        boolean isRightAt(Positions all, int mask) {
            int value = valueAt(all, Positions.rankOf(mask));
            int seen = valuesBehind(all, mask);
            int smaller = (1 << value) - 1;
            return !hasBit(seen, value) && (seen & smaller) == smaller;
        }
    }

    /** The positions that can come on one ladder from the present one. */
    private static final class Reach {
        /** By rank: 1 and the greatest number of steps that lead there; 0 if none do. */
        private final int[] depths = new int[POSITIONS];

        void explore(Positions all, int mask, int sizes, int locks) {
            Arrays.fill(depths, 0);
            int first = Positions.rankOf(mask);
            depths[first] = 1;
            for (int rank = first; rank >= 0; rank--) {
                if (depths[rank] > 0) {
                    int count = all.listBehind(all.masks[rank], sizes, locks);
                    for (int i = 0; i < count; i++) {
                        int next = all.behind[i];
                        depths[next] = Math.max(depths[next], depths[rank] + 1);
                    }
                }
            }
        }

        boolean hasReached(int rank) {
            return depths[rank] > 0;
        }

        int farthest() {
            int most = 1;
            for (int rank = 0; rank < POSITIONS; rank++) {
                most = Math.max(most, depths[rank]);
            }
            return most - 1;
        }

        int countPositions() {
            int count = 0;
            for (int rank = 0; rank < POSITIONS; rank++) {
                count += hasReached(rank) ? 1 : 0;
            }
            return count;
        }
    }

    /** The rules of the game. */
    private static final class Game {
        final Setup setup = new Setup();
        final State now = new State();
        final Reach reach = new Reach();
        final int[] choices = new int[LADDERS * MOST_STEPS];
        private final Positions positions = new Positions();
        private final LadderValues[] values = new LadderValues[LADDERS];

        Game() {
            for (int ladder = 0; ladder < LADDERS; ladder++) {
                values[ladder] = new LadderValues();
            }
        }

        void begin(Setup newSetup) {
            setup.copyFrom(newSetup);
            now.begin(setup);
        }

        boolean isOver() {
            for (int ladder = 0; ladder < setup.count; ladder++) {
                if (countSteps(ladder) > 0) {
                    return false;
                }
            }
            return true;
        }

        int countSteps(int ladder) {
            int count = 0;
            for (int size = 1; size <= HIGHEST; size++) {
                if (hasBit(setup.sizes[ladder], size)) {
                    count += Integer.bitCount(Positions.targetsOf(now.coins[ladder], now.locks[ladder], size));
                }
            }
            return count;
        }

        private LadderValues valuesOf(int ladder) {
            LadderValues own = values[ladder];
            own.setFor(setup.coinCounts[ladder], setup.sizes[ladder], now.locks[ladder]);
            return own;
        }

        int valueWith(int ladder, int coins) {
            return valuesOf(ladder).valueAt(positions, Positions.rankOf(coins));
        }

        int valueNow(int ladder) {
            return valueWith(ladder, now.coins[ladder]);
        }

        boolean hasRightValue(int ladder) {
            return valuesOf(ladder).isRightAt(positions, now.coins[ladder]);
        }

        int sumNow() {
            int sum = 0;
            for (int ladder = 0; ladder < setup.count; ladder++) {
                sum ^= valueWith(ladder, now.coins[ladder]);
            }
            return sum;
        }

        void explore(int ladder) {
            reach.explore(positions, now.coins[ladder], setup.sizes[ladder], now.locks[ladder]);
        }

        int sumOfReachedValues(int ladder) {
            LadderValues own = valuesOf(ladder);
            int total = 0;
            for (int rank = 0; rank < POSITIONS; rank++) {
                if (reach.hasReached(rank)) {
                    total += own.valueAt(positions, rank);
                }
            }
            return total;
        }

        /** Lists the steps that are allowed now, in the order of the document, and answers how many there are. */
        int listChoices() {
            int found = 0;
            for (int ladder = 0; ladder < setup.count; ladder++) {
                for (int height = setup.tops[ladder]; height > 0; height--) {
                    int largest = hasBit(now.coins[ladder], height) ? height : 0;
                    for (int size = 1; size <= largest && found < choices.length; size++) {
                        if (reasonAgainstStep(ladder, height, size) == 0) {
                            choices[found] = ladder << 8 | height << 4 | size;
                            found++;
                        }
                    }
                }
            }
            return found;
        }

        static int ladderOf(int chosen) {
            return chosen >> 8;
        }

        static int heightOf(int chosen) {
            return chosen >> 4 & 15;
        }

        static int sizeOf(int chosen) {
            return chosen & 15;
        }

        /** The exclusive or of the values of the step's ladder before it and behind it. */
        int changeOfValue(int chosen) {
            int ladder = ladderOf(chosen);
            int height = heightOf(chosen);
            int coins = now.coins[ladder];
            int coinsBehind = moved(coins, height, height - sizeOf(chosen));
            LadderValues own = valuesOf(ladder);
            return own.valueAt(positions, Positions.rankOf(coins))
                    ^ own.valueAt(positions, Positions.rankOf(coinsBehind));
        }

        /** The number of the first listed step behind which the sum is 0; NONE if there is none. */
        int firstWinning(int count, int sum) {
            for (int k = 0; k < count && k < choices.length; k++) {
                if (changeOfValue(choices[k]) == sum) {
                    return k;
                }
            }
            return NONE;
        }

        /** As whyNotStep, but for the end of the game. */
        int reasonAgainstStep(int ladder, int height, int size) {
            if (!setup.hasLadder(ladder)) {
                return 2;
            }
            int coins = now.coins[ladder];
            if (height < 1 || height > setup.tops[ladder] || !hasBit(coins, height)) {
                return 3;
            }
            if (size < 1 || size > HIGHEST || !hasBit(setup.sizes[ladder], size)) {
                return 4;
            }
            int to = height - size;
            if (to < 0) {
                return 5;
            }
            if (hasBit(now.locks[ladder], to)) {
                return 6;
            }
            if (hasBit(coins, to)) {
                return 7;
            }
            if (now.claimers[ladder] == 1 - now.player) {
                return 8;
            }
            return now.isBanned(ladder, height, size) ? 9 : 0;
        }

        int reasonAgainstClaim(int ladder) {
            if (isOver()) {
                return 1;
            }
            if (!setup.hasLadder(ladder)) {
                return 2;
            }
            if (now.claimers[ladder] != NONE) {
                return 3;
            }
            return now.tokensOf(CLAIM_TOKENS) > 0 ? 0 : 4;
        }

        int reasonAgainstLock(int ladder, int height) {
            if (isOver()) {
                return 1;
            }
            if (!setup.hasLadder(ladder)) {
                return 2;
            }
            if (height < 1 || height > setup.tops[ladder]) {
                return 3;
            }
            if (hasBit(now.locks[ladder], height)) {
                return 4;
            }
            if (hasBit(now.coins[ladder], height)) {
                return 5;
            }
            return now.tokensOf(LOCK_TOKENS) > 0 ? 0 : 6;
        }

        int reasonAgainstBack() {
            if (now.pastAct(0, ACT_KIND) != STEP) {
                return 1;
            }
            return now.tokensOf(BACK_TOKENS) > 0 ? 0 : 2;
        }

        void makeStep(int ladder, int height, int size) {
            now.coins[ladder] = moved(now.coins[ladder], height, height - size);
            now.addToCount(STEPS_MADE, 1);
            now.addToCount(SIZES_MADE, size);
            now.finishAct(STEP, ladder, height, size);
        }

        int makeClaim(int ladder) {
            int claimer = now.player;
            now.spendToken(CLAIM_TOKENS);
            int left = now.tokensOf(CLAIM_TOKENS);
            now.finishAct(CLAIM, ladder, NONE, NONE);
            now.claimers[ladder] = claimer;
            now.claimsLeft[ladder] = CLAIM_LASTS;
            return left;
        }

        void makeLock(int ladder, int height) {
            now.locks[ladder] |= 1 << height;
            now.spendToken(LOCK_TOKENS);
            now.finishAct(LOCK, ladder, height, NONE);
        }

        void takeBack() {
            int ladder = now.pastAct(0, ACT_LADDER);
            int height = now.pastAct(0, ACT_HEIGHT);
            int size = now.pastAct(0, ACT_SIZE);
            if (setup.hasLadder(ladder)) {
                now.coins[ladder] = moved(now.coins[ladder], height - size, height);
            }
            now.spendToken(BACK_TOKENS);
            now.finishAct(BACK, ladder, height, size);
            now.ban(ladder, height, size);
        }

        void makePass() {
            now.addToCount(PASSES_MADE, 1);
            now.finishAct(PASS, NONE, NONE, NONE);
        }

        /** Makes the listed step with the number best, the first one if that is NONE, or passes if none is listed. */
        void makeBestOrPass(int count, int best) {
            if (count == 0) {
                makePass();
                return;
            }
            int chosen = choices[Math.max(best, 0)];
            makeStep(ladderOf(chosen), heightOf(chosen), sizeOf(chosen));
        }
    }

    /** The states that can come back: by undo, and from the snapshot slots. */
    private static final class History {
        private final State[] earlier = new State[CHANGES_KEPT];
        private final State[] slots = new State[SLOTS];
        private final boolean[] isSaved = new boolean[SLOTS];
        int changes;
        private int next;

        History() {
            for (int i = 0; i < CHANGES_KEPT; i++) {
                earlier[i] = new State();
            }
            for (int slot = 0; slot < SLOTS; slot++) {
                slots[slot] = new State();
            }
        }

        void forgetAll() {
            changes = 0;
            for (int slot = 0; slot < SLOTS; slot++) {
                isSaved[slot] = false;
            }
        }

        /** Keeps a state before a change; the oldest of ten gives way. */
        void keep(State now) {
            earlier[next].copyFrom(now);
            next = (next + 1) % CHANGES_KEPT;
            changes = Math.min(changes + 1, CHANGES_KEPT);
        }

        int goBack(State now) {
            if (changes == 0) {
                return NONE;
            }
            next = (next + CHANGES_KEPT - 1) % CHANGES_KEPT;
            now.copyFrom(earlier[next]);
            changes--;
            return changes;
        }

        boolean saveInto(int slot, State now) {
            if (slot < 0 || slot >= SLOTS) {
                return false;
            }
            slots[slot].copyFrom(now);
            isSaved[slot] = true;
            return true;
        }

        boolean restoreFrom(int slot, State now) {
            if (slot < 0 || slot >= SLOTS || !isSaved[slot]) {
                return false;
            }
            now.copyFrom(slots[slot]);
            changes = 0;
            return true;
        }
    }
}
