/** The men, what is told of them one by one, and a muster anew: promises 1 to 6 and their terms. */
final class EdgesOfMen {
    private static final int BAD = RiverChoice.BAD;
    private static final int NO = RiverChoice.NO;
    private static final int FULL = RiverChoice.FULL;

    private final Sentences s;

    EdgesOfMen(Sentences s) {
        this.s = s;
    }

    void look() {
        callsOfAMan();
        callsOfTwoMen();
        callsOfSomeMen();
        weights();
        weightsAreParts();
        weightsNotAllNone();
        signs();
        brothers();
        daylight();
        word();
        newObject();
        muster();
        musterRefused();
        man();
        manFull();
        worn();
        pair();
        pairBad();
        pairNo();
        wordBad();
        wordNo();
    }

    // ---- the terms

    private interface OfMan {
        long answer(RiverChoice x, int man);
    }

    /** A call that takes a man: what it answers of the last of some men of whom nothing is known, and when it is BAD. */
    private record Call(String name, long due, long bad, OfMan of) {
    }

    private static final Call[] CALLS = {
        new Call("worn", 0, -2, (x, m) -> x.worn(m, 31)),
        new Call("word", 1, -2, (x, m) -> x.word(m)),
        new Call("test", 31, -2, (x, m) -> x.test(m, 0, true)),
        new Call("weight", 1, -2, (x, m) -> x.weight(m, 5)),
        new Call("trust", 25, -2, (x, m) -> x.trust(m)),
        new Call("shows", 23, -2, (x, m) -> x.shows(m, 0)),
        new Call("of", 0, -2, (x, m) -> x.of(m, 3)),
        new Call("worth", 0, -100000000, (x, m) -> x.worth(m, 0, 0, 0)),
        new Call("sift", 1, -10, (x, m) -> x.sift(m, 26, -1)),
        new Call("runs", 0, -2, (x, m) -> x.runs(m)),
        new Call("spy", 5, -2, (x, m) -> x.spy(m)),
        new Call("again", 37, -2, (x, m) -> x.again(m)),
    };

    private void callsOfAMan() {
        s.sentence(0, "1 MEN 0 .. 5 stand along a bank, as they come:");
        for (int n = 0; n <= 6; n++) {
            final int size = n;
            RiverChoice x = Bank.men(n);
            s.due("count(0) of " + n + " men", x.count(0), n);
            for (Call c : CALLS) {
                for (int man = 0; man < n; man++) {
                    long due = c.name.equals("runs") ? (1 << n) - (2 << man) : c.due;
                    s.due(c.name + " of man " + man + " of " + n, c.of.answer(Bank.men(n), man), due);
                }
                s.badBeyond(0, n - 1, () -> Bank.men(size), c.name + " of man # of " + n, c.bad, c.of::answer);
            }
        }
    }

    private void callsOfTwoMen() {
        s.sentence(0, "BROTHERS: pairs of MEN.");
        for (int n = 2; n <= 6; n++) {
            final int size = n;
            s.due("pair of 0 and the last of " + n, Bank.men(n).pair(0, n - 1), 1);
            s.due("pair of the last and 0 of " + n, Bank.men(n).pair(n - 1, 0), 1);
            s.badBeyond(0, n - 1, () -> Bank.men(size), "pair(0, #) of " + n, BAD, (x, m) -> x.pair(0, m));
            s.badBeyond(0, n - 1, () -> Bank.men(size), "pair(#, 0) of " + n, BAD, (x, m) -> x.pair(m, 0));
            RiverChoice knowing = Bank.men(n);
            Bank.wordToAll(knowing, n);
            s.due("boast of 0 and the last of " + n, knowing.boast(0, n - 1, 1), 11);
            for (int m : Sentences.beyond(0, n - 1)) {
                s.due("boast(0, " + m + ") of " + n, knowing.boast(0, m, 0), BAD);
                s.due("boast(" + m + ", 0) of " + n, knowing.boast(m, 0, 0), BAD);
            }
        }
    }

    private void callsOfSomeMen() {
        s.sentence(0, "HOLD of some MEN (bits)");
        for (int n = 0; n <= 6; n++) {
            final int size = n;
            int all = (1 << n) - 1;
            s.due("hold of all " + n, Bank.men(n).hold(all, 0), 1);
            s.due("looks at all " + n, Bank.men(n).looks(all, true, 0), n == 0 ? 32 : 1);
            s.due("next of all " + n, Bank.men(n).next(all), n == 1 ? 0 : -1);
            s.due("drawn of all " + n, Bank.men(n).drawn(all, 0, 0), 0);
            s.badBeyond(0, all, () -> Bank.men(size), "hold(#, 0) of " + n, BAD, (x, men) -> x.hold(men, 0));
            s.badBeyond(0, all, () -> Bank.men(size), "looks(#) of " + n, -10, (x, men) -> x.looks(men, true, 0));
            s.badBeyond(0, all, () -> Bank.men(size), "next(#) of " + n, -10, (x, men) -> x.next(men));
            s.badBeyond(0, all, () -> Bank.men(size), "drawn(#) of " + n, BAD, (x, men) -> x.drawn(men, 1, 1));
        }
    }

    private static int manWith(RiverChoice x, int kind, int weight, int others) {
        int[] w = {others, others, others, others, others, others};
        w[kind] = weight;
        return x.man(w[0], w[1], w[2], w[3], w[4], w[5]);
    }

    private void weights() {
        s.sentence(0, "WEIGHTS of KINDS 0 .. 5 (0 .. 9 each, not all 0)");
        for (int kind = 0; kind < 6; kind++) {
            final int k = kind;
            for (int weight : new int[] {0, 1, 8, 9}) {
                RiverChoice x = new RiverChoice();
                s.due("man of " + weight + " of kind " + kind, manWith(x, kind, weight, 1), 0);
                s.due("weight(0, " + kind + ")", x.weight(0, kind), weight);
                s.due("weight of the kind behind", x.weight(0, (kind + 1) % 6), 1);
            }
            s.badBeyond(0, 9, RiverChoice::new, "man of # of kind " + kind, BAD, (x, w) -> manWith(x, k, w, 1));
            s.badBeyond(0, 9, () -> Bank.men(3), "man of # of kind " + kind + " and none else", BAD, (x, w) -> manWith(x, k, w, 0));
        }
    }

    /** Two kinds by 1 to 9 each: he is so likely of either, and weights twice as great tell nothing else. */
    private void weightsAreParts() {
        s.sentence(0, "how likely each is of that KIND;");
        int[] holds = {6, 10, 2, 1, 11, 0};
        for (int a = 0; a < 6; a++) {
            for (int b = 0; b < 6; b++) {
                if (a == b) {
                    continue;
                }
                for (int part = 1; part <= 9; part += 4) {
                    int[] w = new int[6];
                    w[a] = part;
                    w[b] = 9;
                    RiverChoice x = Bank.one(w[0], w[1], w[2], w[3], w[4], w[5]);
                    String call = part + " of " + a + ", 9 of " + b;
                    s.due("trust(0), " + call, x.trust(0), 60 * (part * holds[a] + 9 * holds[b]) / (12 * (part + 9)));
                    s.due("of(0, 3), " + call, x.of(0, 3), part == 9 ? Math.min(a, b) : b);
                }
            }
        }
        for (int i = 1; i <= 4; i++) {
            RiverChoice x = Bank.one(i, 0, 2 * i, 0, i, 0);
            s.due("trust(0), 1260 by 48, by " + i, x.trust(0), 26);
            // they become 5, 4 and 10: 60 times 148 by 12 times 19
            s.due("test(0, 1, true), by " + i, x.test(0, 1, true), 38);
            s.due("weight(0, 4), by " + i, x.weight(0, 4), 10);
        }
    }

    private void weightsNotAllNone() {
        s.sentence(3, "BAD: all 0, too");
        RiverChoice x = new RiverChoice();
        s.refused(x, BAD, "man of none", -2, () -> x.man(0, 0, 0, 0, 0, 0));
        for (int kind = 0; kind < 6; kind++) {
            s.due("man of 1 of kind " + kind, Bank.addKind(x, kind, 1), kind);
            s.due("his weight", x.weight(kind, kind), 1);
            s.refused(x, BAD, "man of none behind " + kind, -2, () -> x.man(0, 0, 0, 0, 0, 0));
        }
        RiverChoice y = new RiverChoice();
        s.due("man of 9 of all kinds", y.man(9, 9, 9, 9, 9, 9), 0);
        s.due("as told, not parted", y.weight(0, 3), 9);
    }

    private void signs() {
        s.sentence(0, "SIGNS worn (bits of 0 to 31)");
        for (int man = 0; man < 6; man += 5) {
            final int m = man;
            RiverChoice x = Bank.men(6);
            int before = 0;
            for (int signs = 0; signs <= 31; signs++) {
                s.due("worn(" + man + ", " + signs + ")", x.worn(man, signs), before);
                s.due("of(" + man + ", 0)", x.of(man, 0), signs);
                before = signs;
            }
            s.badBeyond(0, 31, () -> Bank.wearing(31, 31, 31, 31, 31, 31), "worn(" + man + ", #)", BAD, (y, n) -> y.worn(m, n));
        }
    }

    private void brothers() {
        s.sentence(34, "2 pairs of BROTHERS");
        RiverChoice x = Bank.men(6);
        int pairs = 0;
        s.due("count(2) at first", x.count(2), 0);
        for (int a = 0; a < 6; a++) {
            for (int b = a + 1; b < 6; b++) {
                s.due("pair(" + b + ", " + a + ")", x.pair(b, a), 1);
                pairs++;
                s.due("count(2)", x.count(2), pairs);
            }
        }
        s.due("all pairs", pairs, 15);
        for (int man = 0; man < 6; man++) {
            s.due("brothers of " + man, x.of(man, 1), 63 - (1 << man));
        }
    }

    private void daylight() {
        s.sentence(0, "DAYLIGHT (0 .. 99; 40 at first)");
        RiverChoice x = new RiverChoice();
        s.due("count(1) at first", x.count(1), 40);
        for (int daylight = 0; daylight <= 99; daylight++) {
            s.due("muster(" + daylight + ")", x.muster(daylight), 0);
            s.due("count(1)", x.count(1), daylight);
        }
        s.badBeyond(0, 99, () -> Bank.men(2), "muster(#)", BAD, (y, n) -> y.muster(n));
    }

    private void word() {
        s.sentence(0, "WORD: MEN (bits) who know what is looked for at the river (none at first)");
        RiverChoice x = Bank.men(6);
        s.due("count(3) at first", x.count(3), 0);
        for (int man = 5; man >= 0; man--) {
            s.due("of(" + man + ", 2) at first", x.of(man, 2), 0);
            s.due("word(" + man + ")", x.word(man), 1);
            s.due("of(" + man + ", 2)", x.of(man, 2), 1);
            s.due("count(3)", x.count(3), 6 - man);
        }
    }

    // ---- the promises

    private void newObject() {
        s.sentence(1, "`RiverChoice()`: As told; no MEN.");
        RiverChoice x = new RiverChoice();
        int[] counts = {0, 40, 0, 0, 0, 0};
        for (int what = 0; what < 6; what++) {
            s.due("count(" + what + ")", x.count(what), counts[what]);
        }
        s.due("part(0)", x.part(0), 0);
        s.due("part(1)", x.part(1), 1);
        s.due("status of all", x.status(0) + x.status(1) + x.status(2), 0);
        s.refused(x, NO, "undo()", -3, x::undo);
        s.refused(x, NO, "from(0)", -3, () -> x.from(0));
        s.refused(x, NO, "from(1)", -3, () -> x.from(1));
        s.due("muster(0)", new RiverChoice().muster(0), 0);
        s.due("clear()", new RiverChoice().clear(), 0);
        s.due("read()", new RiverChoice().read(), -10);
        RiverChoice other = Bank.men(6);
        other.muster(99);
        s.due("objects are apart", new RiverChoice().count(1), 40);
    }

    private void muster() {
        s.sentence(2, "DAYLIGHT, no MEN, nothing else told: how many MEN there were.");
        for (int n = 0; n <= 6; n++) {
            RiverChoice x = Bank.men(n);
            Bank.pairAll(x, n);
            Bank.wordToAll(x, n);
            for (int man = 0; man < n; man++) {
                x.worn(man, 31);
            }
            s.due("muster(40) of " + n, x.muster(40), n);
            s.due("as a new object", x.digest(), new RiverChoice().digest());
            Bank.addMen(x, 6);
            s.due("men anew are as on a new object", x.digest(), Bank.men(6).digest());
            s.due("muster(0) of 6", x.muster(0), 6);
            s.due("muster(0) of none", x.muster(0), 0);
        }
    }

    private void musterRefused() {
        s.sentence(2, "BAD.");
        RiverChoice x = Bank.men(6);
        x.test(0, 0, true);
        s.due("muster(99)", x.muster(99), 6);
        s.refused(x, BAD, "muster(100)", -2, () -> x.muster(100));
        s.due("muster(0)", x.muster(0), 0);
        s.refused(x, BAD, "muster(-1)", -2, () -> x.muster(-1));
    }

    private void man() {
        s.sentence(3, "A MAN by WEIGHTS: his number.");
        RiverChoice x = new RiverChoice();
        for (int man = 0; man < 6; man++) {
            s.due("man", x.man(man, 9 - man, 0, 1, 9, man), man);
            int[] want = {man, 9 - man, 0, 1, 9, man};
            for (int kind = 0; kind < 6; kind++) {
                s.due("weight(" + man + ", " + kind + ")", x.weight(man, kind), want[kind]);
            }
            s.due("of(0) to of(2)", x.of(man, 0) + x.of(man, 1) + x.of(man, 2), 0);
        }
    }

    private void manFull() {
        s.sentence(3, "FULL: 6.");
        RiverChoice x = Bank.men(5);
        x.image(0);
        s.due("the sixth", x.man(1, 0, 0, 0, 0, 0), 5);
        s.refused(x, FULL, "the seventh", -4, () -> x.man(1, 0, 0, 0, 0, 0));
        s.refused(x, FULL, "and once more", -4, () -> x.man(9, 9, 9, 9, 9, 9));
        s.refused(x, BAD, "BAD is looked at first", -2, () -> x.man(0, 0, 0, 0, 0, 0));
        s.refused(x, BAD, "BAD is looked at first", -2, () -> x.man(1, 1, 1, 1, 1, 10));
        x.from(0);
        s.due("the sixth from an image of five", x.man(1, 0, 0, 0, 0, 0), 5);
        s.refused(x, FULL, "the seventh", -4, () -> x.man(1, 0, 0, 0, 0, 0));
        x.muster(0);
        s.due("the first behind a muster", x.man(1, 0, 0, 0, 0, 0), 0);
    }

    private void worn() {
        s.sentence(4, "SIGNS worn: what they were. BAD.");
        RiverChoice x = Bank.men(2);
        s.due("worn(1, 0), none at first", x.worn(1, 0), 0);
        s.due("worn(1, 31)", x.worn(1, 31), 0);
        s.refused(x, BAD, "worn(1, 32)", -2, () -> x.worn(1, 32));
        s.refused(x, BAD, "worn(1, -1)", -2, () -> x.worn(1, -1));
        s.refused(x, BAD, "worn(2, 0)", -2, () -> x.worn(2, 0));
        s.refused(x, BAD, "worn(-1, 0)", -2, () -> x.worn(-1, 0));
        s.due("worn(1, 0)", x.worn(1, 0), 31);
        s.due("the other's signs", x.of(0, 0), 0);
    }

    private void pair() {
        s.sentence(5, "BROTHERS: 1.");
        RiverChoice x = Bank.men(6);
        s.due("pair(0, 5)", x.pair(0, 5), 1);
        s.due("pair(4, 0)", x.pair(4, 0), 1);
        s.due("brothers of 0", x.of(0, 1), 48);
        s.due("brothers of 5", x.of(5, 1), 1);
        s.due("brothers of 4", x.of(4, 1), 1);
        s.due("brothers of 1", x.of(1, 1), 0);
        s.due("a brother's brother is none", x.pair(5, 4), 1);
    }

    private void pairBad() {
        s.sentence(5, "BAD: alike, too");
        RiverChoice x = Bank.men(6);
        Bank.pairAll(x, 5);
        for (int man = 0; man < 6; man++) {
            final int m = man;
            s.refused(x, BAD, "pair(" + m + ", " + m + ")", -2, () -> x.pair(m, m));
        }
        s.refused(x, BAD, "pair(6, 6)", -2, () -> x.pair(6, 6));
        s.refused(x, BAD, "pair(-1, -1)", -2, () -> x.pair(-1, -1));
    }

    private void pairNo() {
        s.sentence(5, "NO: they are.");
        RiverChoice x = Bank.men(3);
        x.pair(2, 0);
        s.refused(x, NO, "pair(2, 0)", -3, () -> x.pair(2, 0));
        s.refused(x, NO, "pair(0, 2)", -3, () -> x.pair(0, 2));
        s.due("pair(1, 0)", x.pair(1, 0), 1);
        x.muster(40);
        Bank.addMen(x, 3);
        s.due("pair(2, 0) anew", x.pair(2, 0), 1);
    }

    private void wordBad() {
        s.sentence(6, "WORD reaches a MAN: 1. BAD;");
        RiverChoice x = new RiverChoice();
        s.refused(x, BAD, "word(0) of none", -2, () -> x.word(0));
        for (int n = 1; n <= 6; n++) {
            final int size = n;
            Bank.addMen(x, 1);
            s.refused(x, BAD, "word(" + n + ") of " + n, -2, () -> x.word(size));
            s.refused(x, BAD, "word(-1) of " + n, -2, () -> x.word(-1));
            s.due("word(" + (n - 1) + ") of " + n, x.word(n - 1), 1);
        }
    }

    private void wordNo() {
        s.sentence(6, "NO: he knows.");
        RiverChoice x = Bank.men(3);
        s.due("word(0)", x.word(0), 1);
        s.refused(x, NO, "word(0)", -3, () -> x.word(0));
        s.due("word(2)", x.word(2), 1);
        x.test(0, 0, true);
        s.refused(x, NO, "word(1) behind a test beside him", -3, () -> x.word(1));
        x.undo();
        s.due("word(1) when that is undone", x.word(1), 1);
        s.refused(x, NO, "word(1)", -3, () -> x.word(1));
        x.muster(40);
        Bank.addMen(x, 3);
        s.due("word(0) anew", x.word(0), 1);
    }
}
