/** Men along a bank, for the tests of the edges. */
final class Bank {
    private Bank() {
    }

    /** So many men of whom nothing is known: of trust 25, spies by 5. */
    static RiverChoice men(int n) {
        RiverChoice x = new RiverChoice();
        addMen(x, n);
        return x;
    }

    static void addMen(RiverChoice x, int n) {
        for (int i = 0; i < n; i++) {
            x.man(1, 1, 1, 1, 1, 1);
        }
    }

    static RiverChoice one(int a, int b, int c, int d, int e, int f) {
        RiverChoice x = new RiverChoice();
        x.man(a, b, c, d, e, f);
        return x;
    }

    /** Men of one kind each, by its number. */
    static RiverChoice ofKinds(int... kinds) {
        RiverChoice x = new RiverChoice();
        for (int kind : kinds) {
            addKind(x, kind, 1);
        }
        return x;
    }

    static int addKind(RiverChoice x, int kind, int weight) {
        int[] w = new int[6];
        w[kind] = weight;
        return x.man(w[0], w[1], w[2], w[3], w[4], w[5]);
    }

    static RiverChoice wearing(int... signs) {
        RiverChoice x = men(signs.length);
        for (int man = 0; man < signs.length; man++) {
            x.worn(man, signs[man]);
        }
        return x;
    }

    /** One man by these weights, in so much daylight. */
    static RiverChoice inLight(int daylight, int... w) {
        RiverChoice x = new RiverChoice();
        x.muster(daylight);
        x.man(w[0], w[1], w[2], w[3], w[4], w[5]);
        return x;
    }

    static void pairAll(RiverChoice x, int n) {
        for (int a = 0; a < n; a++) {
            for (int b = a + 1; b < n; b++) {
                x.pair(a, b);
            }
        }
    }

    static void wordToAll(RiverChoice x, int n) {
        for (int man = 0; man < n; man++) {
            x.word(man);
        }
    }
}
