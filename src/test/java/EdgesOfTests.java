/** Tests, what they cost and leave, what is undone, and what men are weighed by: promises 10 to 16 and their terms. */
final class EdgesOfTests {
    private static final int BAD = RiverChoice.BAD;
    private static final int NO = RiverChoice.NO;
    private static final int[] COST = {2, 5, 3};

    /** Of 12 cases, without WORD: river, night, shout, held. */
    private static final int[][] CASES = {{6, 5, 4, 6}, {9, 8, 7, 10}, {3, 2, 1, 2}, {3, 2, 1, 1}, {4, 10, 9, 11}, {3, 2, 1, 0}};

    private final Sentences s;

    EdgesOfTests(Sentences s) {
        this.s = s;
    }

    void look() {
        costs();
        lightUsedUp();
        testsByNumber();
        casesOfAll();
        kindsUnderPlain();
        boasterByWord();
        veteranHalf();
        spyCases();
        timesCases();
        neverAllNone();
        parted();
        notHalved();
        halved();
        halvedToNothing();
        brothersWeighed();
        wordBeside();
        trustCut();
        showsCut();
        undoDepth();
        toldLeavesNone();
        refusedLeavesThem();
        testBad();
        testNo();
        undo();
        undoNo();
        weight();
        cases();
        trust();
        shows();
        of();
        ofLikeliest();
    }

    private void weights(String call, RiverChoice x, int man, long... want) {
        for (int kind = 0; kind < 6; kind++) {
            s.due("weight(" + man + ", " + kind + ") " + call, x.weight(man, kind), want[kind]);
        }
    }

    // ---- the terms

    private void costs() {
        s.sentence(0, "a TEST costs 2, 5, 3 DAYLIGHT.");
        for (int test = 0; test < 3; test++) {
            final int t = test;
            RiverChoice dark = Bank.inLight(COST[test] - 1, 1, 1, 1, 1, 1, 1);
            s.refused(dark, NO, "test " + test + " in a light too little", -3, () -> dark.test(0, t, true));
            for (int more = 0; more < 2; more++) {
                RiverChoice x = Bank.inLight(COST[test] + more, 1, 1, 1, 1, 1, 1);
                s.due("test " + test + " in light by " + more + " more", x.test(0, test, more == 0), trustBehind(test, more == 0));
                s.due("what is left", x.count(1), more);
                s.refused(x, NO, "once more", -3, () -> x.test(0, t, true));
            }
        }
    }

    private static int trustBehind(int test, boolean shown) {
        int[] shownTo = {31, 38, 42};
        int[] notShownTo = {20, 15, 16};
        return shown ? shownTo[test] : notShownTo[test];
    }

    private void lightUsedUp() {
        s.sentence(10, "NO: DAYLIGHT is less than it costs.");
        for (int test = 0; test < 3; test++) {
            final int t = test;
            RiverChoice x = Bank.inLight(99, 1, 0, 0, 0, 0, 0);
            for (int i = 1; i <= 99 / COST[test]; i++) {
                s.due("test " + test + ", the " + i + ".", x.test(0, test, i % 2 == 0), 30);
                s.due("light behind it", x.count(1), 99 - i * COST[test]);
            }
            s.refused(x, NO, "one more test " + test, -3, () -> x.test(0, t, true));
            s.due("undo()", x.undo(), 1);
            s.due("and once more", x.test(0, test, true), 30);
        }
        RiverChoice none = Bank.inLight(0, 1, 0, 0, 0, 0, 0);
        for (int test = 0; test < 3; test++) {
            final int t = test;
            s.refused(none, NO, "test " + test + " without light", -3, () -> none.test(0, t, true));
        }
    }

    private void testsByNumber() {
        s.sentence(0, "TESTS: 0 RIVER, 1 NIGHT, 2 SHOUT;");
        for (int test = 0; test < 3; test++) {
            RiverChoice x = Bank.men(3);
            x.word(1);
            s.due("cases(3, " + test + ", true)", x.cases(3, test, true), test == 0 ? 11 : 3 - test);
            s.due("shows(1, " + test + ") of one who knows", x.shows(1, test), test == 0 ? 36 : test == 1 ? 24 : 19);
            x.test(1, test, true);
            s.due("who know WORD behind test " + test, x.count(3), test == 0 ? 3 : 1);
        }
    }

    private void casesOfAll() {
        s.sentence(0, "KINDS, each under the one told, tell in how many of 12 cases one shows it (0 at least, 12 at most), in how many one HOLDS:");
        RiverChoice x = new RiverChoice();
        for (int kind = 0; kind < 6; kind++) {
            for (int what = 0; what < 4; what++) {
                int blind = x.cases(kind, what, false);
                int knowing = x.cases(kind, what, true);
                s.due("cases(" + kind + ", " + what + ", false)", blind, CASES[kind][what]);
                s.due("within 0 and 12", blind >= 0 && blind <= 12 && knowing >= 0 && knowing <= 12 ? 1 : 0, 1);
            }
        }
        s.due("the least: a spy holds", x.cases(5, 3, false), 0);
        s.due("the most: a veteran holds", x.cases(4, 3, true), 11);
    }

    private void casesOf(int kind, int... want) {
        RiverChoice x = new RiverChoice();
        for (int i = 0; i < 8; i++) {
            s.due("cases(" + kind + ", " + i / 2 + ", " + (i % 2 == 1) + ")", x.cases(kind, i / 2, i % 2 == 1), want[i / 2]);
        }
    }

    private void kindsUnderPlain() {
        s.sentence(0, "0 PLAIN: 6, 5, 4; 6.");
        casesOf(0, 6, 5, 4, 6);
        s.sentence(0, "1 BRAVE (under PLAIN): 3 more than PLAIN; 4 more.");
        casesOf(1, 6 + 3, 5 + 3, 4 + 3, 6 + 4);
        s.sentence(0, "2 TIMID (under PLAIN): 3 less; 4 less.");
        casesOf(2, 6 - 3, 5 - 3, 4 - 3, 6 - 4);
    }

    private void boasterByWord() {
        s.sentence(0, "3 BOASTER (under TIMID): at the river 11, if WORD reached him, else as TIMID; 1 less.");
        RiverChoice x = new RiverChoice();
        s.due("a boaster at the river, by WORD", x.cases(3, 0, true), 11);
        s.due("a boaster at the river, without", x.cases(3, 0, false), x.cases(2, 0, false));
        s.due("a timid one at the river, by WORD", x.cases(2, 0, true), 3);
        s.due("a boaster by night, by WORD", x.cases(3, 1, true), 2);
        s.due("a boaster at a shout, by WORD", x.cases(3, 2, true), 1);
        s.due("a boaster holds", x.cases(3, 3, true), 1);
    }

    private void veteranHalf() {
        s.sentence(0, "4 VETERAN (under BRAVE): half of BRAVE (cut) at the river (has drunk before), else 2 more; 1 more.");
        RiverChoice x = new RiverChoice();
        for (int word = 0; word < 2; word++) {
            s.due("at the river, 9 by 2", x.cases(4, 0, word == 1), 4);
            s.due("by night", x.cases(4, 1, word == 1), 10);
            s.due("at a shout", x.cases(4, 2, word == 1), 9);
            s.due("holds", x.cases(4, 3, word == 1), 11);
        }
    }

    private void spyCases() {
        s.sentence(0, "5 SPY (under BOASTER): as BOASTER, but 1 at a shout; 0.");
        RiverChoice x = new RiverChoice();
        for (int word = 0; word < 2; word++) {
            s.due("at the river", x.cases(5, 0, word == 1), word == 1 ? 11 : 3);
            s.due("by night", x.cases(5, 1, word == 1), 2);
            s.due("at a shout", x.cases(5, 2, word == 1), 1);
            s.due("holds", x.cases(5, 3, word == 1), 0);
        }
    }

    private static int casesBy(int kind, int test, boolean word) {
        return test == 0 && word && (kind == 3 || kind == 5) ? 11 : CASES[kind][test];
    }

    private static long greatest(long a, long b) {
        return b == 0 ? a : greatest(b, a % b);
    }

    private void timesCases() {
        s.sentence(0, "A TEST of a MAN, shown or not: each of his WEIGHTS becomes that many times as many cases in which such a one shows it (does not), WORD being as it is");
        for (int i = 0; i < 6 * 3 * 2 * 2; i++) {
            int kind = i % 6;
            int test = i / 6 % 3;
            boolean shown = i / 18 % 2 == 0;
            boolean word = i / 36 == 0;
            RiverChoice x = new RiverChoice();
            int[] w = {kind == 0 ? 7 : 5, 0, 0, 0, 0, 0};
            w[kind] = 7;
            x.man(w[0], w[1], w[2], w[3], w[4], w[5]);
            if (word) {
                x.word(0);
            }
            x.test(0, test, shown);
            long plain = w[0] * (shown ? CASES[0][test] : 12 - CASES[0][test]);
            long other = 7 * (shown ? casesBy(kind, test, word) : 12 - casesBy(kind, test, word));
            long all = kind == 0 ? plain : greatest(plain, other);
            String call = "of kind " + kind + " behind test " + test + (shown ? " shown" : " not shown") + (word ? " by word" : "");
            s.due("weight " + call, x.weight(0, kind), other / all);
            s.due("plain weight beside that " + call, x.weight(0, 0), plain / all);
        }
    }

    /** As each shows each test in 1 case at least and 11 at most, a weight above 0 never becomes 0 by a test alone. */
    private void neverAllNone() {
        s.sentence(0, "if all are 0 then, all become 1");
        for (int i = 0; i < 6 * 3 * 2 * 2; i++) {
            int kind = i % 6;
            RiverChoice x = Bank.ofKinds(kind);
            if (i / 36 == 0) {
                x.word(0);
            }
            x.test(0, i / 6 % 3, i / 18 % 2 == 0);
            for (int k = 0; k < 6; k++) {
                s.due("weight of " + k + " of a man of kind " + kind + " behind test " + i / 6 % 3, x.weight(0, k), k == kind ? 1 : 0);
            }
        }
    }

    private void parted() {
        s.sentence(0, "all are parted by the greatest number that goes into all of them");
        RiverChoice x = Bank.one(0, 8, 0, 0, 0, 0);
        weights("as told, not parted", x, 0, 0, 8, 0, 0, 0, 0);
        x.test(0, 0, true);
        weights("parted by itself", x, 0, 0, 1, 0, 0, 0, 0);
        RiverChoice y = Bank.one(2, 0, 4, 0, 0, 0);
        y.test(0, 0, true);
        weights("12 and 12 parted by 12", y, 0, 1, 0, 1, 0, 0, 0);
        y.test(0, 1, true);
        weights("5 and 2 parted by 1", y, 0, 5, 0, 2, 0, 0, 0);
        RiverChoice z = Bank.one(6, 3, 0, 0, 9, 0);
        z.test(0, 0, true);
        weights("36, 27 and 36 parted by 9, nones left out", z, 0, 4, 3, 0, 0, 4, 0);
    }

    private static RiverChoice behind(boolean word, int[] w, String tests) {
        RiverChoice x = Bank.inLight(99, w);
        if (word) {
            x.word(0);
        }
        for (int i = 0; i < tests.length(); i += 2) {
            x.test(0, tests.charAt(i) - '0', tests.charAt(i + 1) == '+');
        }
        return x;
    }

    private void notHalved() {
        s.sentence(0, "all are parted by the greatest number that goes into all of them, and, as long as one is above 999999");
        RiverChoice x = behind(false, new int[] {0, 8, 0, 0, 1, 9}, "2-2-2-1+2-2-2-1-1-1+1+1+1+");
        weights("999936 is not halved", x, 0, 0, 999936, 0, 0, 4375, 778516);
        RiverChoice most = behind(true, new int[] {0, 7, 0, 8, 0, 8}, "2-0-2-2+2+1-2-0+0+1-0+2+2-0+0+2-2-2+0-");
        weights("999999 is not halved", most, 0, 0, 999999, 0, 102217, 0, 102217);
        RiverChoice y = behind(true, new int[] {1, 0, 0, 5, 0, 0}, "0+1-0+0+0+1-0+1+2+0-2+2+1-");
        weights("1999872 is halved once", y, 0, 999936, 0, 0, 314552, 0, 0);
    }

    private void halved() {
        s.sentence(0, "all are halved (cut)");
        RiverChoice a = behind(false, new int[] {6, 4, 0, 0, 5, 0}, "1+1+1+1+1+0-");
        weights("28125, 98304, 1000000 once", a, 0, 14062, 49152, 0, 0, 500000, 0);
        RiverChoice b = behind(true, new int[] {0, 2, 8, 0, 0, 5}, "2+2+0-0-2-0-1-0-0-0+1-1+1+2+");
        weights("1000048, 811923, 27 once", b, 0, 0, 500024, 405961, 0, 0, 13);
        RiverChoice c = behind(false, new int[] {7, 0, 0, 3, 5, 0}, "1+1+1+0-1+1+");
        weights("65625, 432, 2000000 twice", c, 0, 16406, 0, 0, 108, 500000, 0);
        RiverChoice d = behind(true, new int[] {4, 0, 0, 8, 3, 0}, "1-0+0+1-0+2-0+1-1+2+2+0+0-2+");
        weights("2000160, 346007, 52488 twice", d, 0, 500040, 0, 0, 86501, 13122, 0);
        RiverChoice e = behind(false, new int[] {6, 0, 0, 8, 6, 0}, "1-1-1-1-1-1-");
        weights("352947, 4000000, 192 three times", e, 0, 44118, 0, 0, 500000, 24, 0);
    }

    private void halvedToNothing() {
        s.sentence(0, "all are halved (cut)");
        RiverChoice x = behind(false, new int[] {0, 0, 1, 0, 1, 0}, "1+1+1+1+1+1+1+1+");
        weights("behind eight nights", x, 0, 0, 0, 1, 0, 390625, 0);
        x.test(0, 1, true);
        weights("1 and 1953125 once", x, 0, 0, 0, 0, 0, 976562, 0);
        x.test(0, 1, true);
        weights("parted by itself then", x, 0, 0, 0, 0, 0, 1, 0);
        s.due("trust(0)", x.trust(0), 55);
        s.due("undo()", x.undo(), 1);
        s.due("undo()", x.undo(), 1);
        weights("undone", x, 0, 0, 0, 1, 0, 390625, 0);
    }

    private void brothersWeighed() {
        s.sentence(0, "The same then with WEIGHTS of each BROTHER, by numbers (his own WORD).");
        RiverChoice x = new RiverChoice();
        for (int i = 0; i < 6; i++) {
            x.man(1, 0, 0, 1, 0, 0);
        }
        x.word(2);
        x.word(5);
        x.test(3, 1, false);
        weights("no brothers: he himself", x, 3, 7, 0, 0, 10, 0, 0);
        weights("no brothers: the others", x, 2, 1, 0, 0, 1, 0, 0);
        x.undo();
        for (int man = 1; man < 6; man++) {
            x.pair(0, man);
        }
        s.due("test(0, 0, true)", x.test(0, 0, true), 21);
        for (int man = 0; man < 6; man++) {
            boolean knew = man == 2 || man == 5;
            weights("all brothers", x, man, knew ? 6 : 2, 0, 0, knew ? 11 : 1, 0, 0);
        }
        x.test(1, 2, true);
        weights("a brother of 0 alone", x, 1, 8, 0, 0, 1, 0, 0);
        weights("0", x, 0, 8, 0, 0, 1, 0, 0);
        weights("0's other brothers are none of his", x, 3, 2, 0, 0, 1, 0, 0);
        s.due("it costs what one test costs", x.count(1), 35);
    }

    private void wordBeside() {
        s.sentence(0, "Behind a TEST at the river those who stand beside him (a number less, a number more) know WORD.");
        for (int n = 1; n <= 6; n++) {
            for (int man = 0; man < n; man++) {
                RiverChoice x = Bank.men(n);
                Bank.pairAll(x, n);
                x.test(man, 0, man % 2 == 0);
                for (int m = 0; m < n; m++) {
                    s.due("of(" + m + ", 2) behind " + man + " of " + n, x.of(m, 2), Math.abs(m - man) == 1 ? 1 : 0);
                }
                s.due("count(3)", x.count(3), (man > 0 ? 1 : 0) + (man < n - 1 ? 1 : 0));
                if (n < 6) {
                    Bank.addMen(x, 1);
                    s.due("one who comes behind it does not know", x.of(n, 2), 0);
                }
            }
        }
        RiverChoice y = Bank.men(3);
        y.test(1, 1, true);
        y.test(1, 2, true);
        s.due("none by night, none at a shout", y.count(3), 0);
        y.word(1);
        y.test(1, 0, true);
        y.test(1, 0, true);
        s.due("he himself goes on knowing", y.count(3), 3);
    }

    private void trustCut() {
        s.sentence(0, "TRUST of a MAN: 60 times WEIGHTS times cases in which they HOLD, all together, by 12 times all WEIGHTS (cut).");
        int[] alone = {30, 50, 10, 5, 55, 0};
        for (int kind = 0; kind < 6; kind++) {
            s.due("of one of kind " + kind, Bank.ofKinds(kind).trust(0), alone[kind]);
        }
        s.due("240 by 12, nothing to cut", Bank.one(2, 0, 0, 0, 0, 1).trust(0), 20);
        s.due("2520 by 132, cut", Bank.one(7, 0, 0, 0, 0, 4).trust(0), 19);
        s.due("9780 by 336, cut", Bank.one(9, 9, 9, 1, 0, 0).trust(0), 29);
        s.due("60 by 120, cut to none", Bank.one(0, 0, 0, 1, 0, 9).trust(0), 0);
        s.due("120 by 120", Bank.one(0, 0, 1, 0, 0, 9).trust(0), 1);
        RiverChoice large = behind(false, new int[] {0, 8, 0, 0, 1, 9}, "2-2-2-1+2-2-2-1-1-1+1+1+1+");
        s.due("weights of six figures", large.trust(0), 60L * (999936 * 10 + 4375 * 11) / (12L * (999936 + 4375 + 778516)));
    }

    private void showsCut() {
        s.sentence(0, "SHOWS a TEST: 60 times WEIGHTS times cases so, by 12 times all WEIGHTS (cut).");
        for (int kind = 0; kind < 6; kind++) {
            for (int test = 0; test < 3; test++) {
                RiverChoice x = Bank.ofKinds(kind);
                s.due("test " + test + " of kind " + kind, x.shows(0, test), 5 * CASES[kind][test]);
                x.word(0);
                s.due("by word", x.shows(0, test), 5 * casesBy(kind, test, true));
            }
        }
        s.due("1680 by 72, cut", Bank.men(1).shows(0, 0), 23);
        s.due("1740 by 72, cut", Bank.men(1).shows(0, 1), 24);
        s.due("1380 by 72, cut", Bank.men(1).shows(0, 2), 19);
    }

    // ---- undone

    /** All that the digest holds but how many tests may be undone: three calls, as objects are good for 512 alone. */
    static long toldOf(RiverChoice x) {
        long behind = 1;
        for (int i = 3 + 9 * x.count(0); i > 0; i--) {
            behind *= 31;
        }
        return x.digest() - x.count(4) * behind;
    }

    /** All that is told of the men. */
    private static String told(RiverChoice x) {
        StringBuilder t = new StringBuilder().append(x.count(1));
        for (int man = 0; man < x.count(0); man++) {
            for (int kind = 0; kind < 6; kind++) {
                t.append(' ').append(x.weight(man, kind));
            }
            t.append(' ').append(x.of(man, 0)).append(' ').append(x.of(man, 1)).append(' ').append(x.of(man, 2));
        }
        return t.toString();
    }

    private void undoDepth() {
        s.sentence(0, "UNDO: WEIGHTS, WORD, DAYLIGHT as ahead of the last TEST (8 at most;");
        for (int n = 0; n <= 17; n++) {
            RiverChoice x = Bank.men(2);
            x.pair(0, 1);
            x.worn(1, 9);
            long[] ahead = new long[n];
            for (int i = 0; i < n; i++) {
                ahead[i] = toldOf(x);
                x.test(i % 2, i % 5 < 3 ? 0 : 2, i % 3 == 0);
                s.due("count(4) behind " + (i + 1), x.count(4), Math.min(i + 1, 8));
            }
            for (int i = n - 1; i >= Math.max(0, n - 8); i--) {
                s.due("undo() of test " + i + " of " + n, x.undo(), 1);
                s.due("all as ahead of it", toldOf(x), ahead[i]);
                s.due("count(4)", x.count(4), i - Math.max(0, n - 8));
            }
            s.refused(x, NO, "undo() of none of " + n, -3, x::undo);
        }
        undoneAndTestedAgain();
    }

    private void undoneAndTestedAgain() {
        RiverChoice x = Bank.men(1);
        for (int i = 0; i < 10; i++) {
            x.test(0, 0, true);
        }
        for (int i = 0; i < 5; i++) {
            s.due("undo()", x.undo(), 1);
        }
        for (int i = 0; i < 6; i++) {
            x.test(0, 0, false);
            s.due("count(4), eight again at most", x.count(4), Math.min(8, 4 + i));
        }
        s.due("light of five and six tests", x.count(1), 40 - 2 * 11);
        for (int i = 1; i <= 8; i++) {
            s.due("undo()", x.undo(), 1);
            s.due("light ahead of it", x.count(1), 18 + 2 * i);
        }
        s.refused(x, NO, "undo()", -3, x::undo);
    }

    private static RiverChoice tested() {
        RiverChoice x = Bank.men(3);
        x.pair(0, 1);
        x.test(0, 1, true);
        x.test(1, 0, false);
        return x;
    }

    private void toldLeavesNone() {
        s.sentence(0, "all else that is told leaves none)");
        for (int call = 0; call < 7; call++) {
            RiverChoice x = tested();
            Due.type(x, "muster 5;");
            s.due("count(4)", x.count(4), 2);
            if (call == 0) {
                x.muster(40);
            } else if (call == 1) {
                x.man(1, 1, 1, 1, 1, 1);
            } else if (call == 2) {
                x.worn(2, 3);
            } else if (call == 3) {
                x.worn(2, 0);
            } else if (call == 4) {
                x.pair(0, 2);
            } else if (call == 5) {
                x.word(1);
            } else {
                s.due("read()", x.read(), 1);
            }
            s.due("count(4) behind call " + call, x.count(4), 0);
            s.refused(x, NO, "undo() behind call " + call, -3, x::undo);
        }
    }

    private void refusedLeavesThem() {
        s.sentence(0, "Refused, changing nothing but STATUS");
        RiverChoice x = tested();
        x.muster(100);
        x.muster(-1);
        x.man(0, 0, 0, 0, 0, 0);
        x.man(1, 1, 1, 1, 1, 10);
        x.worn(0, 32);
        x.worn(3, 0);
        x.pair(0, 0);
        x.pair(1, 0);
        x.word(0);
        x.word(3);
        x.test(3, 0, true);
        x.test(0, 3, true);
        x.from(0);
        x.type(128);
        s.due("a fault", Due.read(x, "muster 5"), -18);
        s.due("a refused item", Due.read(x, "muster 5;word 0;"), -1001);
        s.due("count(4)", x.count(4), 2);
        s.due("undo()", x.undo(), 1);
        s.due("undo()", x.undo(), 1);
        RiverChoice full = Bank.men(6);
        full.test(0, 0, true);
        s.refused(full, RiverChoice.FULL, "a seventh", -4, () -> full.man(1, 1, 1, 1, 1, 1));
        s.due("undo() behind it", full.undo(), 1);
    }

    // ---- the promises

    private void testBad() {
        s.sentence(10, "A TEST: TRUST then. BAD;");
        for (int test = 0; test < 3; test++) {
            s.due("test(0, " + test + ", true)", Bank.men(1).test(0, test, true), trustBehind(test, true));
            s.due("test(0, " + test + ", false)", Bank.men(1).test(0, test, false), trustBehind(test, false));
        }
        s.badBeyond(0, 2, () -> Bank.men(1), "test(0, #, true)", -2, (x, n) -> x.test(0, n, true));
        s.badBeyond(0, 0, () -> Bank.men(1), "test(#, 2, false)", -2, (x, n) -> x.test(n, 2, false));
    }

    private void testNo() {
        s.sentence(10, "BAD; NO: DAYLIGHT is less than it costs.");
        RiverChoice x = Bank.inLight(1, 1, 1, 1, 1, 1, 1);
        s.refused(x, BAD, "BAD is looked at first: the man", -2, () -> x.test(1, 0, true));
        s.refused(x, BAD, "BAD is looked at first: the test", -2, () -> x.test(0, 3, true));
        s.refused(x, NO, "test(0, 0, true)", -3, () -> x.test(0, 0, true));
        s.due("none to undo", x.count(4), 0);
    }

    private void undo() {
        s.sentence(11, "UNDO: 1.");
        RiverChoice x = Bank.men(3);
        x.worn(1, 4);
        String before = told(x);
        x.test(1, 0, true);
        x.hold(7, 1);
        x.type(';');
        long above = x.part(0);
        s.due("undo()", x.undo(), 1);
        s.due("all as ahead of it", told(x).equals(before) ? 1 : 0, 1);
        s.due("the fraction stays", x.part(0), above);
        s.due("the text stays", x.count(5), 1);
    }

    private void undoNo() {
        s.sentence(11, "NO: none may be.");
        RiverChoice x = new RiverChoice();
        s.refused(x, NO, "undo() of none", -3, x::undo);
        Bank.addMen(x, 1);
        s.refused(x, NO, "undo() of none", -3, x::undo);
        x.test(0, 2, true);
        s.due("undo()", x.undo(), 1);
        s.refused(x, NO, "undo() of no more", -3, x::undo);
    }

    private void weight() {
        s.sentence(12, "WEIGHT of a KIND of a MAN. BAD: -2.");
        RiverChoice x = Bank.one(0, 1, 2, 7, 8, 9);
        weights("of one", x, 0, 0, 1, 2, 7, 8, 9);
        s.badBeyond(0, 5, () -> Bank.men(6), "weight(5, #)", -2, (y, n) -> y.weight(5, n));
        s.badBeyond(0, 0, () -> Bank.men(1), "weight(#, 0)", -2, (y, n) -> y.weight(n, 0));
        RiverChoice none = new RiverChoice();
        s.refused(none, BAD, "weight(0, 0) of none", -2, () -> none.weight(0, 0));
    }

    private void cases() {
        s.sentence(13, "In how many of 12 cases one of a KIND shows a TEST (0 .. 2), HOLDS (3). BAD.");
        RiverChoice x = new RiverChoice();
        for (int kind = 0; kind < 6; kind++) {
            for (int what = 0; what < 4; what++) {
                final int k = kind;
                final int w = what;
                s.changesNothing(x, "cases(" + kind + ", " + what + ", false)", CASES[kind][what], () -> x.cases(k, w, false));
            }
        }
        for (int word = 0; word < 2; word++) {
            final boolean by = word == 1;
            s.badBeyond(0, 5, RiverChoice::new, "cases(#, 0, " + by + ")", -2, (y, n) -> y.cases(n, 0, by));
            s.badBeyond(0, 5, RiverChoice::new, "cases(#, 3, " + by + ")", -2, (y, n) -> y.cases(n, 3, by));
            s.badBeyond(0, 3, RiverChoice::new, "cases(0, #, " + by + ")", -2, (y, n) -> y.cases(0, n, by));
            s.badBeyond(0, 3, RiverChoice::new, "cases(5, #, " + by + ")", -2, (y, n) -> y.cases(5, n, by));
        }
    }

    private void trust() {
        s.sentence(14, "TRUST. BAD.");
        s.badBeyond(0, -1, RiverChoice::new, "trust(#) of none", -2, (x, n) -> x.trust(n));
        s.badBeyond(0, 5, () -> Bank.men(6), "trust(#) of six", -2, (x, n) -> x.trust(n));
        RiverChoice x = Bank.ofKinds(0, 1, 2, 3, 4, 5);
        s.changesNothing(x, "trust(0)", 30, () -> x.trust(0));
        s.changesNothing(x, "trust(5)", 0, () -> x.trust(5));
    }

    private void shows() {
        s.sentence(15, "SHOWS a TEST. BAD.");
        for (int test = 0; test < 3; test++) {
            final int t = test;
            RiverChoice x = Bank.men(2);
            s.changesNothing(x, "shows(1, " + test + ")", new int[] {23, 24, 19}[test], () -> x.shows(1, t));
        }
        s.badBeyond(0, 2, () -> Bank.men(1), "shows(0, #)", -2, (x, n) -> x.shows(0, n));
        s.badBeyond(0, 0, () -> Bank.men(1), "shows(#, 0)", -2, (x, n) -> x.shows(n, 0));
        RiverChoice dark = Bank.inLight(0, 1, 1, 1, 1, 1, 1);
        s.due("no daylight is needed", dark.shows(0, 1), 24);
    }

    private void of() {
        s.sentence(16, "Of a MAN: SIGNS (0), BROTHERS (1; bits), whether he knows WORD (2: 1, 0)");
        RiverChoice x = Bank.men(6);
        for (int what = 0; what < 4; what++) {
            final int w = what;
            s.changesNothing(x, "of(5, " + what + ") at first", 0, () -> x.of(5, w));
        }
        x.worn(5, 31);
        Bank.pairAll(x, 6);
        x.word(5);
        s.due("of(5, 0)", x.of(5, 0), 31);
        s.due("of(5, 1)", x.of(5, 1), 31);
        s.due("of(0, 1)", x.of(0, 1), 62);
        s.due("of(5, 2)", x.of(5, 2), 1);
        s.badBeyond(0, 3, () -> Bank.men(1), "of(0, #)", -2, (y, n) -> y.of(0, n));
        s.badBeyond(0, 0, () -> Bank.men(1), "of(#, 0)", -2, (y, n) -> y.of(n, 0));
        s.badBeyond(0, 0, () -> Bank.men(1), "of(#, 3)", -2, (y, n) -> y.of(n, 3));
    }

    private void ofLikeliest() {
        s.sentence(16, "his likeliest KIND (3; the first). BAD.");
        for (int a = 0; a < 6; a++) {
            for (int b = 0; b < 6; b++) {
                int[] w = {1, 1, 1, 1, 1, 1};
                w[a] = 8;
                w[b] = 9;
                s.due("9 of " + b + ", 8 of " + a, Bank.one(w[0], w[1], w[2], w[3], w[4], w[5]).of(0, 3), b);
                w[a] = 9;
                s.due("9 of both, " + a + " and " + b, Bank.one(w[0], w[1], w[2], w[3], w[4], w[5]).of(0, 3), Math.min(a, b));
            }
        }
        for (int kind = 0; kind < 6; kind++) {
            RiverChoice x = Bank.ofKinds(kind);
            x.man(9, 9, 9, 9, 9, 9);
            s.due("1 of " + kind + ", ahead of one who is 9 of all", x.of(0, 3), kind);
            s.due("9 of all, behind one who is 1 of " + kind, x.of(1, 3), 0);
        }
    }
}
