import java.math.BigInteger;

/** What there is: the fraction, images, the status, counts and the digest: promises 30 to 35 and their terms. */
final class EdgesOfState {
    private static final int BAD = RiverChoice.BAD;
    private static final int NO = RiverChoice.NO;

    private final Sentences s;

    EdgesOfState(Sentences s) {
        this.s = s;
    }

    void look() {
        constants();
        calls();
        fractionAtFirst();
        lowestTerms();
        firstReason();
        othersCount();
        imagesKeep();
        imagesLeave();
        imagesKeepTests();
        statusCounts();
        itemsAreNone();
        part();
        image();
        from();
        fromNo();
        status();
        statusOfAnother();
        count();
        countBad();
        digest();
        digestWraps();
    }

    // ---- the terms

    private void constants() {
        s.sentence(Sentences.AROUND, "public static final int NONE = -1, BAD = -2, NO = -3, FULL = -4;");
        s.due("NONE", RiverChoice.NONE, -1);
        s.due("BAD", RiverChoice.BAD, -2);
        s.due("NO", RiverChoice.NO, -3);
        s.due("FULL", RiverChoice.FULL, -4);
    }

    private void calls() {
        s.sentence(Sentences.AROUND, "An object is used for at most 512 calls after it has been made; what later calls answer is free.");
        RiverChoice x = new RiverChoice();
        for (int call = 1; call <= 511; call++) {
            s.due("call " + call, x.trust(0), -2);
        }
        s.due("call 512", x.status(0), 511);
        RiverChoice y = new RiverChoice();
        for (int call = 1; call <= 511; call++) {
            s.due("call " + call, y.muster(call % 100), 0);
        }
        s.due("call 512", y.count(1), 11);
        for (int call = 513; call <= 2000; call++) {
            y.man(1, 1, 1, 1, 1, 1);
            y.type(call % 128);
            y.test(0, call % 3, true);
            y.undo();
        }
        s.due("later calls end, whatever they answer", 1, 1);
    }

    private void fraction(String call, RiverChoice x, long above, long below) {
        s.due("part(0) " + call, x.part(0), above);
        s.due("part(1) " + call, x.part(1), below);
    }

    private void fractionAtFirst() {
        s.sentence(0, "THE FRACTION is 0 by 1 at first");
        RiverChoice x = new RiverChoice();
        fraction("at first", x, 0, 1);
        Bank.addMen(x, 1);
        x.hold(2, 0);
        x.hold(1, 7);
        x.keep(1, 1);
        x.worth(0, 0, 1, 1);
        fraction("behind refused holds and others", x, 0, 1);
    }

    private void lowestTerms() {
        s.sentence(0, "lowest terms, below above 0.");
        RiverChoice x = Bank.ofKinds(0, 1, 2, 3, 4, 5);
        long[] above = {1, 5, 1, 1, 11, 0};
        long[] below = {2, 6, 6, 12, 12, 1};
        for (int man = 0; man < 6; man++) {
            x.hold(1 << man, 1);
            fraction("of trust in man " + man, x, above[man], below[man]);
            x.hold(1 << man, 0);
            fraction("of none needed of man " + man, x, 1, 1);
            x.hold(1 << man, 2);
            fraction("of two of one man " + man, x, 0, 1);
        }
        x.hold(31, 5);
        // 1 by 2, 5 by 6, 1 by 6, 1 by 12, 11 by 12
        fraction("of all but the spy", x, 55, 10368);
        x.hold(63, 6);
        fraction("of all", x, 0, 1);
    }

    private void firstReason() {
        s.sentence(0, "the first of: BAD -2 a number is not as told; NO -3 as told; FULL -4");
        RiverChoice x = Bank.men(6);
        Bank.pairAll(x, 6);
        Bank.wordToAll(x, 5);
        s.refused(x, BAD, "man: BAD ahead of FULL", -2, () -> x.man(0, 0, 0, 0, 0, 0));
        s.refused(x, BAD, "pair: BAD ahead of NO", -2, () -> x.pair(5, 5));
        s.refused(x, BAD, "pair: BAD ahead of NO", -2, () -> x.pair(0, 6));
        s.refused(x, BAD, "boast: BAD ahead of NO", -2, () -> x.boast(0, 5, 2));
        s.refused(x, BAD, "boast: BAD ahead of NO", -2, () -> x.boast(5, 5, 0));
        s.refused(x, BAD, "from: BAD ahead of NO", -2, () -> x.from(2));
        RiverChoice dark = Bank.inLight(0, 1, 1, 1, 1, 1, 1);
        s.refused(dark, BAD, "test: BAD ahead of NO", -2, () -> dark.test(0, 3, true));
        s.refused(dark, BAD, "test: BAD ahead of NO", -2, () -> dark.test(1, 0, true));
        s.refused(dark, BAD, "worth: BAD ahead of NO", -100000000, () -> dark.worth(0, 0, 1, 7));
        s.refused(dark, BAD, "worth: BAD ahead of NO", -100000000, () -> dark.worth(0, 0, 4, 0));
        s.refused(dark, BAD, "keep: BAD ahead of NONE", -10, () -> dark.keep(2, 7));
        s.refused(dark, BAD, "best: BAD ahead of NONE", -10, () -> dark.best(2, 7));
        s.refused(dark, BAD, "sift: BAD ahead of NONE", -10, () -> dark.sift(0, 60, -2));
        RiverChoice full = new RiverChoice();
        Due.type(full, "a".repeat(150));
        s.refused(full, BAD, "type: BAD ahead of FULL", -2, () -> full.type(128));
        s.refused(full, RiverChoice.FULL, "type: FULL", -4, () -> full.type(127));
    }

    private void othersCount() {
        s.sentence(0, "(where others are told they count as these).");
        RiverChoice x = Bank.inLight(1, 1, 1, 1, 1, 1, 1);
        s.refused(x, BAD, "keep(7, 0)", -10, () -> x.keep(7, 0));
        s.refused(x, BAD, "worth(0, 0, 0, 7)", -100000000, () -> x.worth(0, 0, 0, 7));
        s.refused(x, NO, "worth(0, 0, 0, 0) in too little light", -200000000, () -> x.worth(0, 0, 0, 0));
        s.refused(x, BAD, "best(4, 0)", -10, () -> x.best(4, 0));
        s.refused(x, BAD, "sift(0, 61, 0)", -10, () -> x.sift(0, 61, 0));
        s.refused(x, BAD, "looks(0, true, 2)", -10, () -> x.looks(0, true, 2));
        s.refused(x, BAD, "next(2)", -10, () -> x.next(2));
        s.refused(x, BAD, "status(3)", -1, () -> x.status(3));
        RiverChoice two = Bank.men(1);
        s.refused(two, NO, "worth(0, 0, 2, 0) of one", -200000000, () -> two.worth(0, 0, 2, 0));
        s.changesNothing(two, "keep(2, 0): NONE is not refused", -1, () -> two.keep(2, 0));
        s.changesNothing(two, "best(2, 0): NONE is not refused", -1, () -> two.best(2, 0));
        s.changesNothing(two, "sift(0, 60, 0): NONE is not refused", -1, () -> two.sift(0, 60, 0));
        s.changesNothing(two, "sift(0, 0, 0): not so many is not refused", -5, () -> two.sift(0, 0, 0));
        s.changesNothing(two, "looks(0, false, 1)", 0, () -> two.looks(0, false, 1));
        s.changesNothing(two, "looks(1, false, 1): NONE is not refused", -1, () -> two.looks(1, false, 1));
    }

    private void imagesKeep() {
        s.sentence(0, "IMAGES 0, 1 keep all but them");
        RiverChoice x = new RiverChoice();
        x.image(1);
        s.due("an empty one is kept", x.from(1), 1);
        RiverChoice y = Bank.wearing(1, 2, 4, 8, 16, 31);
        Bank.pairAll(y, 6);
        Bank.wordToAll(y, 3);
        y.test(0, 1, true);
        y.image(0);
        long full = y.digest();
        y.muster(99);
        y.image(1);
        long empty = y.digest();
        for (int turn = 0; turn < 3; turn++) {
            s.due("from(0)", y.from(0), 1);
            s.due("six men anew", y.digest(), full);
            s.refused(y, RiverChoice.FULL, "a seventh", -4, () -> y.man(1, 1, 1, 1, 1, 1));
            y.test(turn, 0, true);
            s.due("from(1)", y.from(1), 1);
            s.due("no men anew", y.digest(), empty);
            s.refused(y, BAD, "trust(0)", -2, () -> y.trust(0));
            y.man(1, 1, 1, 1, 1, 1);
            y.word(0);
        }
        y.image(0);
        s.due("from(0), kept anew", y.from(0), 1);
        s.due("one man", y.count(0), 1);
        y.from(1);
        y.image(1);
        Bank.addMen(y, 1);
        s.due("men behind an image know and wear nothing", y.of(0, 0) + y.of(0, 1) + y.of(0, 2), 0);
    }

    private void imagesLeave() {
        s.sentence(0, "THE TEXT, THE FRACTION and STATUS");
        RiverChoice x = Bank.ofKinds(0, 0);
        x.type('a');
        x.hold(3, 2);
        x.trust(9);
        x.image(0);
        x.image(1);
        x.type('b');
        x.hold(1, 1);
        x.trust(9);
        x.undo();
        s.due("from(0)", x.from(0), 1);
        s.due("count(5)", x.count(5), 2);
        fraction("behind from", x, 1, 2);
        s.due("status(0)", x.status(0), 2);
        s.due("status(1)", x.status(1), 1);
        x.clear();
        x.hold(0, 1);
        s.due("from(1)", x.from(1), 1);
        s.due("count(5)", x.count(5), 0);
        fraction("behind from", x, 0, 1);
    }

    private void imagesKeepTests() {
        s.sentence(0, "TESTS that may be undone they keep; it goes on from one.");
        for (int n = 0; n <= 10; n++) {
            RiverChoice x = Bank.men(3);
            long[] ahead = new long[n];
            for (int i = 0; i < n; i++) {
                ahead[i] = EdgesOfTests.toldOf(x);
                x.test(i % 3, i % 2 * 2, i % 4 < 2);
            }
            x.image(0);
            long before = x.digest();
            for (int i = 0; i < 4; i++) {
                x.test(i % 3, 0, false);
            }
            x.image(1);
            x.worn(0, 1);
            s.due("none may be undone", x.count(4), 0);
            s.due("from(0)", x.from(0), 1);
            s.due("all as kept", x.digest(), before);
            s.due("count(4)", x.count(4), Math.min(n, 8));
            for (int i = n - 1; i >= Math.max(0, n - 8); i--) {
                s.due("undo()", x.undo(), 1);
                s.due("all as ahead of test " + i, EdgesOfTests.toldOf(x), ahead[i]);
            }
            s.refused(x, NO, "undo() of none", -3, x::undo);
            int light = 40;
            for (int i = 0; i < n - 8; i++) {
                light -= i % 2 == 0 ? 2 : 3;
            }
            s.due("light ahead of them all", x.count(1), light);
            s.due("from(1)", x.from(1), 1);
            s.due("count(4) of the other", x.count(4), Math.min(n + 4, 8));
        }
    }

    private void statusCounts() {
        s.sentence(0, "STATUS: how many calls were refused as BAD, NO, FULL (each answer told so below is such a one");
        RiverChoice x = Bank.men(6);
        for (int n = 1; n <= 40; n++) {
            x.trust(6);
            x.undo();
            x.man(1, 1, 1, 1, 1, 1);
            s.due("status(0)", x.status(0), n);
            s.due("status(1)", x.status(1), n);
            s.due("status(2)", x.status(2), n);
        }
        x.muster(40);
        s.due("status stays behind a muster", x.status(0) + x.status(1) + x.status(2), 120);
    }

    private void itemsAreNone() {
        s.sentence(0, "ITEMS are none)");
        String[] texts = {"muster 1;word 0;", "muster 1;man 0 0 0 0 0 0;", "muster 1;man 1 0 0 0 0 0;word 0;word 0;",
            "muster1;" + "man1 0 0 0 0 0;".repeat(7), "muster 100;", ""};
        int[] answers = {-1001, -1001, -1003, -1007, -17, -10};
        for (int i = 0; i < texts.length; i++) {
            RiverChoice y = new RiverChoice();
            Due.type(y, texts[i]);
            s.changesNothing(y, "read of '" + texts[i] + "'", answers[i], y::read);
            s.due("status behind it", y.status(0) + y.status(1) + y.status(2), 0);
        }
    }

    // ---- the promises

    private void part() {
        s.sentence(30, "THE FRACTION: above (0), below (1). BAD.");
        RiverChoice x = Bank.men(1);
        x.hold(1, 1);
        s.changesNothing(x, "part(0)", 5, () -> x.part(0));
        s.changesNothing(x, "part(1)", 12, () -> x.part(1));
        s.badBeyond(0, 1, () -> Bank.men(1), "part(#)", -2, (y, n) -> y.part(n));
    }

    private void image() {
        s.sentence(31, "An IMAGE is kept: 1. BAD.");
        RiverChoice x = Bank.men(2);
        x.test(0, 0, true);
        s.changesNothing(x, "image(0)", 1, () -> x.image(0));
        s.changesNothing(x, "image(1)", 1, () -> x.image(1));
        s.changesNothing(x, "image(0) once more", 1, () -> x.image(0));
        s.badBeyond(0, 1, () -> Bank.men(1), "image(#)", -2, (y, i) -> y.image(i));
        RiverChoice bad = Bank.men(1);
        bad.image(2);
        bad.image(-1);
        s.refused(bad, NO, "from(0), none was kept by those", -3, () -> bad.from(0));
        s.refused(bad, NO, "from(1), none was kept by those", -3, () -> bad.from(1));
    }

    private void from() {
        s.sentence(32, "It goes on from an IMAGE: 1. BAD;");
        s.badBeyond(0, 1, RiverChoice::new, "from(#)", -2, (y, i) -> y.from(i));
        s.badBeyond(0, 1, () -> {
            RiverChoice y = Bank.men(1);
            y.image(0);
            y.image(1);
            return y;
        }, "from(#), both kept", -2, (y, i) -> y.from(i));
        RiverChoice x = Bank.men(1);
        x.image(0);
        x.muster(0);
        s.due("from(0)", x.from(0), 1);
        s.due("from(0) again", x.from(0), 1);
        s.due("count(0)", x.count(0), 1);
    }

    private void fromNo() {
        s.sentence(32, "NO: none was kept.");
        for (int kept = 0; kept < 2; kept++) {
            final int other = 1 - kept;
            RiverChoice x = Bank.men(1);
            s.refused(x, NO, "from(" + other + ")", -3, () -> x.from(other));
            x.image(kept);
            s.due("from(" + kept + ")", x.from(kept), 1);
            s.refused(x, NO, "from(" + other + "), the other being kept", -3, () -> x.from(other));
            x.muster(0);
            s.refused(x, NO, "from(" + other + ")", -3, () -> x.from(other));
            s.due("from(" + kept + ") behind a muster", x.from(kept), 1);
        }
    }

    private void status() {
        s.sentence(33, "STATUS: BAD (0), NO (1), FULL (2).");
        RiverChoice x = new RiverChoice();
        s.due("status(0)", x.status(0), 0);
        s.due("status(1)", x.status(1), 0);
        s.due("status(2)", x.status(2), 0);
        Bank.addMen(x, 9);
        x.undo();
        x.undo();
        x.muster(100);
        s.changesNothing(x, "status(0)", 1, () -> x.status(0));
        s.changesNothing(x, "status(1)", 2, () -> x.status(1));
        s.changesNothing(x, "status(2)", 3, () -> x.status(2));
    }

    private void statusOfAnother() {
        s.sentence(33, "-1: another what (counts as BAD).");
        s.badBeyond(0, 2, () -> Bank.men(1), "status(#)", -1, (y, what) -> y.status(what));
        RiverChoice x = new RiverChoice();
        for (int n = 1; n <= 50; n++) {
            s.due("status(3)", x.status(3), -1);
            s.due("status(0)", x.status(0), n);
        }
    }

    private void count() {
        s.sentence(34, "How many: 0 MEN, 1 DAYLIGHT, 2 pairs of BROTHERS, 3 who know WORD, 4 TESTS that may be undone, 5 bytes of THE TEXT.");
        int[][] want = {{0, 40, 0, 0, 0, 0}, {6, 99, 15, 6, 8, 150}};
        RiverChoice x = new RiverChoice();
        for (int what = 0; what < 6; what++) {
            s.due("count(" + what + ") at first", x.count(what), want[0][what]);
        }
        RiverChoice y = new RiverChoice();
        y.muster(99);
        Bank.addMen(y, 6);
        Bank.pairAll(y, 6);
        Bank.wordToAll(y, 6);
        Due.type(y, "z".repeat(151));
        s.due("light ahead of the tests", y.count(1), 99);
        for (int n = 1; n <= 9; n++) {
            y.test(0, 0, true);
            s.due("count(4)", y.count(4), Math.min(n, 8));
            s.due("count(1)", y.count(1), 99 - 2 * n);
        }
        for (int what = 0; what < 6; what++) {
            s.due("count(" + what + ") of all that can be", y.count(what), what == 1 ? 81 : want[1][what]);
        }
    }

    private void countBad() {
        s.sentence(34, "BAD.");
        s.badBeyond(0, 5, RiverChoice::new, "count(#)", -2, (y, what) -> y.count(what));
        s.badBeyond(0, 5, () -> Bank.men(6), "count(#) of six", -2, (y, what) -> y.count(what));
    }

    private static BigInteger rolled(long... values) {
        BigInteger h = BigInteger.valueOf(971);
        for (long v : values) {
            h = h.multiply(BigInteger.valueOf(31)).add(BigInteger.valueOf(v));
        }
        return h;
    }

    private void digest() {
        s.sentence(35, "h = 971; then h = 31 h + v for each v: count(0) to count(5)");
        BigInteger none = rolled(0, 40, 0, 0, 0, 0, 0, 1);
        s.due("of no men", new RiverChoice().digest(), none.longValueExact());
        RiverChoice x = Bank.one(1, 2, 3, 4, 5, 6);
        x.worn(0, 31);
        x.word(0);
        s.due("of one man", x.digest(), rolled(1, 40, 0, 1, 0, 0, 1, 2, 3, 4, 5, 6, 31, 0, 1, 0, 1).longValue());
        long once = x.digest();
        s.due("once more", x.digest(), once);
        x.trust(1);
        s.due("status is none of it", x.digest(), once);
    }

    /** 31 to the 13th is above what a long holds: with more values the digest wraps around. */
    private void digestWraps() {
        s.sentence(35, "of MEN WEIGHTS of KINDS 0 to 5, SIGNS, BROTHERS as bits, whether he knows WORD (1, 0); THE FRACTION.");
        for (int n = 0; n <= 6; n++) {
            RiverChoice x = new RiverChoice();
            x.muster(99);
            for (int i = 0; i < n; i++) {
                x.man(0, 8, 0, 0, 1, 9);
                x.worn(i, 31 - i);
            }
            Bank.pairAll(x, n);
            if (n > 0) {
                x.word(n - 1);
                String tests = "2-2-2-1+2-2-2-1-1-1+1+1+1+";
                for (int i = 0; i < tests.length(); i += 2) {
                    x.test(0, tests.charAt(i) - '0', tests.charAt(i + 1) == '+');
                }
            }
            x.type(';');
            x.hold((1 << n) - 1, 1);
            long[] values = new long[6 + 9 * n + 2];
            long[] counts = {n, n == 0 ? 99 : 46, n * (n - 1) / 2, n == 0 ? 0 : 1, n == 0 ? 0 : 8, 1};
            System.arraycopy(counts, 0, values, 0, 6);
            for (int i = 0; i < n; i++) {
                long[] man = {0, 999936, 0, 0, 4375, 778516, 31 - i, (1 << n) - 1 - (1 << i), i == n - 1 ? 1 : 0};
                System.arraycopy(man, 0, values, 6 + 9 * i, 9);
            }
            values[values.length - 2] = x.part(0);
            values[values.length - 1] = x.part(1);
            s.due("of " + n + " men", x.digest(), rolled(values).longValue());
        }
    }
}
