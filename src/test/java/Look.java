/** All that can be seen of a game, as a text. */
final class Look {
    private Look() {
    }

    /** With the number of changes that can be undone; some 60 calls for a small game. */
    static String at(CoinLadders x) {
        return atState(x) + x.size(5);
    }

    /** Without that number: what a snapshot holds. */
    static String atState(CoinLadders x) {
        StringBuilder all = new StringBuilder();
        for (int what = 0; what < 5; what++) {
            all.append(x.size(what)).append(' ');
        }
        for (int ladder = 0; ladder < x.size(0); ladder++) {
            for (int what = 0; what < 6; what++) {
                all.append(x.ladder(ladder, what)).append(' ');
            }
            for (int what = 0; what < 3; what++) {
                all.append(x.set(ladder, what)).append(' ');
            }
        }
        for (int i = 0; i < 12; i++) {
            all.append(x.player(i / 6, i % 6)).append(' ');
        }
        for (int k = 0; k <= Math.min(x.size(2), 16); k++) {
            for (int what = 0; what < 5; what++) {
                all.append(x.act(k, what)).append(' ');
            }
        }
        int allowed = x.allowed();
        for (int k = 0; k < allowed; k++) {
            for (int what = 0; what < 3; what++) {
                all.append(x.choice(k, what)).append(' ');
            }
        }
        return all.toString();
    }
}
