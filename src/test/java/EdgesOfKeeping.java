/** Whom to keep, tests that are worth it, who is sent home: promises 17 to 24 and their terms. */
final class EdgesOfKeeping {
    private static final int BAD = RiverChoice.BAD;
    private static final int NO = RiverChoice.NO;
    private static final int BAD_WORTH = -100000000;
    private static final int NO_WORTH = -200000000;

    private final Sentences s;

    EdgesOfKeeping(Sentences s) {
        this.s = s;
    }

    void look() {
        changesNothing();
        holdNeeds();
        holdOfSome();
        keepSizes();
        keepLeast();
        worthBounds();
        worthBelowNone();
        worthInTheMean();
        bestNumbers();
        bestFirst();
        bestByDaylight();
        bestNone();
        siftTrust();
        siftDaylight();
        siftTests();
        siftFirstRow();
        runsOn();
        homeTrust();
        homeLeast();
        spyAllNone();
        hold();
        keepNone();
        keepBad();
        worthBad();
        worthNo();
        bestBad();
        siftHowMany();
        siftNone();
        siftNotSoMany();
        siftBad();
        runs();
        home();
        spy();
    }

    private void fraction(String call, RiverChoice x, int men, int j, long above, long below) {
        s.due("hold(" + men + ", " + j + ") of " + call, x.hold(men, j), 1);
        s.due("part(0) behind it", x.part(0), above);
        s.due("part(1) behind it", x.part(1), below);
    }

    // ---- the terms

    private void changesNothing() {
        s.sentence(0, "(What is below changes nothing.)");
        RiverChoice x = Bank.wearing(1, 2);
        x.pair(0, 1);
        Bank.wordToAll(x, 2);
        x.test(0, 1, true);
        s.changesNothing(x, "keep(1, 1)", 1, () -> x.keep(1, 1));
        s.changesNothing(x, "worth(0, 0, 0, 0)", 0, () -> x.worth(0, 0, 0, 0));
        s.changesNothing(x, "best(0, 0)", 0, () -> x.best(0, 0));
        s.changesNothing(x, "sift(0, 60, -1)", -1, () -> x.sift(0, 60, -1));
        s.changesNothing(x, "sift(0, 0, 0)", -5, () -> x.sift(0, 0, 0));
        s.changesNothing(x, "runs(0)", 3, () -> x.runs(0));
        s.changesNothing(x, "home(120)", 1, () -> x.home(120));
        s.changesNothing(x, "spy(0)", 3, () -> x.spy(0));
        s.changesNothing(x, "looks(3, true, 1)", 0, () -> x.looks(3, true, 1));
        s.changesNothing(x, "next(0)", 0, () -> x.next(0));
        s.changesNothing(x, "boast(0, 1, 1)", 1, () -> x.boast(0, 1, 1));
        s.changesNothing(x, "drawn(3, 0, 0)", 0, () -> x.drawn(3, 0, 0));
        s.changesNothing(x, "again(0)", x.again(1), () -> x.again(0));
        s.due("undo()", x.undo(), 1);
    }

    private void holdNeeds() {
        s.sentence(0, "HOLD of some MEN (bits), j (0 .. 6): that j of them at least hold");
        RiverChoice x = Bank.ofKinds(0, 0, 0, 0, 0, 0);
        long[] above = {1, 63, 57, 21, 11, 7, 1};
        long[] below = {1, 64, 64, 32, 32, 64, 64};
        for (int j = 0; j <= 6; j++) {
            fraction("six of half", x, 63, j, above[j], below[j]);
        }
        s.badBeyond(0, 6, () -> Bank.men(6), "hold(63, #)", -2, (y, j) -> y.hold(63, j));
        s.badBeyond(0, 6, RiverChoice::new, "hold(0, #)", -2, (y, j) -> y.hold(0, j));
    }

    private void holdOfSome() {
        s.sentence(0, "each in TRUST of 60 cases, apart: of 60 to the number of MEN: THE FRACTION.");
        RiverChoice x = Bank.ofKinds(0, 0, 0, 0, 0, 5);
        for (int n = 0; n <= 5; n++) {
            int men = (1 << n) - 1;
            fraction("all of " + n, x, men, n, 1, 1 << n);
            fraction("none of " + n, x, men, 0, 1, 1);
            fraction("one more than all of " + n, x, men, n + 1, 0, 1);
        }
        fraction("a spy", x, 32, 1, 0, 1);
        fraction("a spy and another", x, 33, 1, 1, 2);
        RiverChoice z = Bank.men(6);
        Bank.pairAll(z, 6);
        z.test(0, 0, true);
        // 31 of 60 each: nothing goes into 31 and 60, so that what is below is 60 to the sixth
        fraction("six of 31", z, 63, 6, 887503681L, 46656000000L);
        fraction("one of 31", z, 32, 1, 31, 60);
    }

    private void keepSizes() {
        s.sentence(0, "KEEP of k (0 .. 6) for j: the set of k MEN for which that is most");
        for (int n = 0; n <= 6; n++) {
            RiverChoice x = Bank.men(n);
            for (int k = 0; k <= 6; k++) {
                for (int j = 0; j <= 6; j += 3) {
                    s.due("keep(" + k + ", " + j + ") of " + n, x.keep(k, j), k <= n ? (1 << k) - 1 : -1);
                }
            }
            s.due("keep(0, 0) of " + n + ", behind others", x.keep(0, 0), 0);
            s.due("keep(7, 0) of " + n, x.keep(7, 0), -10);
            s.due("keep(-1, 0) of " + n, x.keep(-1, 0), -10);
        }
        RiverChoice y = Bank.ofKinds(5, 3, 2, 0, 1, 4);
        int[] want = {0, 32, 48, 56, 60, 62, 63};
        for (int k = 0; k <= 6; k++) {
            s.due("keep(" + k + ", " + Math.min(k, 5) + ")", y.keep(k, Math.min(k, 5)), want[k]);
        }
    }

    private void keepLeast() {
        s.sentence(0, "of like ones the least (bits).");
        RiverChoice x = Bank.ofKinds(5, 4, 5, 4, 4, 5);
        s.due("one veteran of three", x.keep(1, 1), 2);
        s.due("two veterans of three", x.keep(2, 2), 10);
        s.due("all veterans and a spy", x.keep(4, 3), 27);
        s.due("more needed than kept: all are like", x.keep(2, 3), 3);
        s.due("none needed: all are like", x.keep(5, 0), 31);
    }

    private void worthBounds() {
        s.sentence(0, "WORTH of a TEST of a MAN for k (0 .. 3), j");
        for (int n = 0; n <= 4; n++) {
            for (int k = 0; k <= 3; k++) {
                if (n > 0) {
                    s.due("worth(0, 0, " + k + ", 0) of " + n, Bank.men(n).worth(0, 0, k, 0), k <= n ? 0 : NO_WORTH);
                    s.due("worth(0, 0, " + k + ", 6) of " + n, Bank.men(n).worth(0, 0, k, 6), k <= n ? 0 : NO_WORTH);
                }
            }
        }
        s.badBeyond(0, 3, () -> Bank.men(6), "worth(0, 0, #, 0)", BAD_WORTH, (x, k) -> x.worth(0, 0, k, 0));
        s.badBeyond(0, 6, () -> Bank.men(6), "worth(0, 0, 3, #)", BAD_WORTH, (x, j) -> x.worth(0, 0, 3, j));
        s.badBeyond(0, 2, () -> Bank.men(6), "worth(0, #, 3, 6)", BAD_WORTH, (x, t) -> x.worth(0, t, 3, 6));
        s.badBeyond(0, 5, () -> Bank.men(6), "worth(#, 2, 3, 6)", BAD_WORTH, (x, m) -> x.worth(m, 2, 3, 6));
    }

    private void worthBelowNone() {
        s.sentence(0, "so many of 60 times 60 to the k (it may be below 0).");
        RiverChoice x = Bank.one(0, 1, 0, 0, 0, 1);
        int[] worths = {-30, -10, -40};
        for (int test = 0; test < 3; test++) {
            s.due("worth(0, " + test + ", 1, 1) of a brave one or a spy", x.worth(0, test, 1, 1), worths[test]);
        }
        RiverChoice y = Bank.ofKinds(0, 0, 0);
        s.due("of one kind: none", y.worth(0, 0, 3, 2), 0);
        RiverChoice z = Bank.one(1, 0, 0, 0, 1, 0);
        s.due("worth(0, 0, 1, 1) above 0", z.worth(0, 0, 1, 1), 20);
        Bank.addKind(z, 0, 1);
        Bank.addKind(z, 0, 1);
        // by 30 of 60 each of the two others, when all three are needed
        s.due("worth(0, 0, 3, 3), 20 times 30 times 30", z.worth(0, 0, 3, 3), 18000);
        Bank.addKind(z, 4, 1);
        // 42 of 60 now and one of 30: the veteran is kept whatever is shown
        s.due("worth(0, 0, 1, 1) beside a better one", z.worth(0, 0, 1, 1), 0);
    }

    private void worthInTheMean() {
        s.sentence(0, "were it shown with SHOWS of 60 cases, else not, how much the HOLD of KEEP (for j) behind it is in the mean above that of KEEP now");
        RiverChoice x = Bank.men(1);
        s.due("23 of 60 by 31, 37 by 20, now 25", x.worth(0, 0, 1, 1), 23 * 31 + 37 * 20 - 60 * 25);
        Bank.addKind(x, 0, 1);
        s.due("one of 30 is kept now, and if it is not shown", x.worth(0, 0, 1, 1), 23 * 31 + 37 * 30 - 60 * 30);
        s.due("one of 30 is as he is, whatever he shows", x.worth(1, 0, 1, 1), 0);
        s.due("both are kept", x.worth(0, 0, 2, 2), 30 * (23 * 31 + 37 * 20 - 60 * 25));
        Bank.addMen(x, 1);
        x.pair(0, 2);
        s.due("his brother is weighed with him", x.worth(0, 0, 2, 2), 23 * 31 * 31 + 37 * 20 * 30 - 60 * 25 * 30);
        x.word(2);
        // 6, 9, 3, 11, 4, 11, if it is shown: trust 21; if not, 6, 3, 9, 1, 8, 1: trust 30
        s.due("his brother by his own WORD", x.worth(0, 0, 2, 2), 23 * 31 * 30 + 37 * 30 * 30 - 60 * 25 * 30);
    }

    private void bestNumbers() {
        s.sentence(0, "BEST TEST: the MAN and TEST (10 the MAN and the TEST)");
        int[] kinds = {5, 5, 5, 5, 5};
        for (int man = 0; man < 6; man++) {
            RiverChoice river = Bank.ofKinds(java.util.Arrays.copyOf(kinds, man));
            river.man(1, 0, 0, 0, 1, 0);
            s.due("the river, of man " + man, river.best(1, 1), 10 * man);
            RiverChoice shout = Bank.ofKinds(java.util.Arrays.copyOf(kinds, man));
            shout.man(0, 1, 0, 1, 0, 0);
            s.due("the shout, of man " + man, shout.best(1, 1), 10 * man + 2);
        }
    }

    private void bestFirst() {
        s.sentence(0, "of most WORTH, of like ones the first");
        s.due("best(0, 0): all are like", Bank.men(6).best(0, 0), 0);
        s.due("best(3, 6): all are like", Bank.men(6).best(3, 6), 0);
        s.due("of a spy: all are like", Bank.ofKinds(5).best(1, 1), 0);
        s.due("all below 0: the night", Bank.one(0, 1, 0, 0, 0, 1).best(1, 1), 1);
        s.due("all below 0: the shout", Bank.one(0, 0, 0, 1, 1, 0).best(1, 1), 2);
        s.due("above 0: the river", Bank.one(1, 0, 0, 0, 1, 0).best(1, 1), 0);
        RiverChoice x = Bank.ofKinds(5, 5, 5, 5);
        x.man(1, 0, 0, 0, 1, 0);
        x.man(1, 0, 0, 0, 1, 0);
        s.due("the shout of the fifth, like that of the sixth", x.best(1, 1), 42);
    }

    private void bestByDaylight() {
        s.sentence(0, "none: no DAYLIGHT for any, no MEN.");
        int[] nightFirst = {-1, -1, 0, 0, 0, 1, 1};
        int[] shoutFirst = {-1, -1, 0, 2, 2, 2, 2};
        for (int daylight = 0; daylight <= 6; daylight++) {
            RiverChoice x = Bank.inLight(daylight, 0, 1, 0, 0, 0, 1);
            s.due("best(1, 1) in light of " + daylight, x.best(1, 1), nightFirst[daylight]);
            RiverChoice y = Bank.inLight(daylight, 0, 0, 0, 1, 1, 0);
            s.due("best(1, 1) of another in light of " + daylight, y.best(1, 1), shoutFirst[daylight]);
        }
        RiverChoice none = new RiverChoice();
        s.changesNothing(none, "best(0, 0) of no men", -1, () -> none.best(0, 0));
        s.changesNothing(none, "best(1, 0) of no men", -1, () -> none.best(1, 0));
    }

    private void bestNone() {
        s.sentence(20, "BEST TEST. NONE (k is more than there are, too).");
        for (int n = 0; n <= 4; n++) {
            final RiverChoice x = Bank.men(n);
            for (int k = 0; k <= 3; k++) {
                final int kept = k;
                s.changesNothing(x, "best(" + k + ", 0) of " + n, n > 0 && k <= n ? 0 : -1, () -> x.best(kept, 0));
            }
        }
    }

    /** A man of whom nothing is known, in so much light: the row that is sifted for t, 9 for no row, 8 ahead of each. */
    private void siftedRow(int daylight, int t, int want) {
        RiverChoice x = Bank.inLight(daylight, 1, 1, 1, 1, 1, 1);
        String call = "(0, " + t + ") in light of " + daylight;
        int size = x.sift(0, t, -1);
        int row = size < 0 ? 9 : 8;
        for (int i = 0; i < size; i++) {
            row = 10 * row + x.sift(0, t, i);
        }
        s.due("row of sift" + call, row, want);
        s.due("sift" + call + " behind the row", x.sift(0, t, Math.max(size, 0)), size < 0 ? -1 : -5);
    }

    private void siftTrust() {
        s.sentence(0, "the fewest TESTS (0 .. 3), all shown, one behind the other, by which his TRUST is t or more");
        int[] upTo = {25, 31, 38, 42, 44, 47, 48, 49, 50, 51, 60};
        int[] rows = {8, 80, 81, 82, 802, 811, 812, 822, 8111, 8112, 9};
        int t = 0;
        for (int i = 0; i < rows.length; i++) {
            for (; t <= upTo[i]; t++) {
                siftedRow(99, t, rows[i]);
            }
        }
        s.due("all of them", t, 61);
    }

    private void siftDaylight() {
        s.sentence(0, "for which DAYLIGHT is enough");
        int[] for26 = {9, 9, 80, 80, 80};
        int[] for32 = {9, 9, 9, 82, 82, 81};
        int[] for43 = {9, 9, 9, 9, 9, 802, 802};
        int[] for45 = {9, 9, 9, 9, 9, 9, 822, 822, 812, 812, 811};
        int[] for50 = {9, 9, 9, 9, 9, 9, 9, 9, 9, 8222, 8222, 8122, 8122, 8112, 8112, 8111, 8111};
        int[][] all = {for26, for32, for43, for45, for50};
        int[] t = {26, 32, 43, 45, 50};
        for (int i = 0; i < all.length; i++) {
            for (int daylight = 0; daylight < all[i].length; daylight++) {
                siftedRow(daylight, t[i], all[i][daylight]);
            }
        }
        siftedRow(0, 25, 8);
        siftedRow(4, 38, 82);
    }

    private void siftTests() {
        s.sentence(0, "SIFT of a MAN for t (0 .. 60)");
        s.due("sift(0, 0, -1)", Bank.men(1).sift(0, 0, -1), 0);
        s.due("sift(0, 60, -1)", Bank.men(1).sift(0, 60, -1), -1);
        s.badBeyond(0, 60, () -> Bank.men(1), "sift(0, #, -1)", -10, (x, t) -> x.sift(0, t, -1));
        RiverChoice veteran = Bank.ofKinds(4);
        s.due("a veteran for 55", veteran.sift(0, 55, -1), 0);
        s.due("a veteran for 56", veteran.sift(0, 56, -1), -1);
        RiverChoice spy = Bank.ofKinds(5);
        s.due("a spy for 0", spy.sift(0, 0, -1), 0);
        s.due("a spy for 1", spy.sift(0, 1, -1), -1);
    }

    private void siftFirstRow() {
        s.sentence(0, "of like ones the first row (TESTS rising): how many, the i-th; none.");
        siftedRow(40, 43, 802);
        siftedRow(40, 45, 811);
        siftedRow(40, 48, 812);
        siftedRow(40, 51, 8112);
        RiverChoice x = Bank.ofKinds(5);
        x.man(0, 0, 1, 1, 0, 0);
        // a timid one and a boaster show alike without WORD: no row of tests makes him more than 7
        s.due("sift(1, 7, -1)", x.sift(1, 7, -1), 0);
        s.due("sift(1, 8, -1)", x.sift(1, 8, -1), -1);
    }

    private void runsOn() {
        s.sentence(0, "RUNS: the river being tried with MEN from one on to the last, one by one: those of them (bits) who know WORD as their turn comes.");
        for (int n = 1; n <= 6; n++) {
            for (int knowing = 0; knowing < 1 << n; knowing++) {
                RiverChoice x = Bank.men(n);
                for (int man = 0; man < n; man++) {
                    if ((knowing >> man & 1) == 1) {
                        x.word(man);
                    }
                }
                for (int man = 0; man < n; man++) {
                    // the first by what he knew, the others by the one ahead of them
                    int want = (1 << n) - (2 << man) + (knowing & 1 << man);
                    s.due("runs(" + man + ") of " + n + ", knowing " + knowing, x.runs(man), want);
                }
            }
        }
    }

    private void homeTrust() {
        s.sentence(0, "so that any two BROTHERS who both stay have TRUST of t (0 .. 120) or more together.");
        RiverChoice x = Bank.ofKinds(0, 1);
        s.due("home(120), no brothers", x.home(120), 0);
        x.pair(0, 1);
        for (int t = 0; t <= 120; t++) {
            s.due("home(" + t + ") of 30 and 50", x.home(t), t <= 80 ? 0 : 1);
        }
        s.badBeyond(0, 120, () -> Bank.men(2), "home(#)", -2, (y, t) -> y.home(t));
        RiverChoice veterans = Bank.ofKinds(4, 4, 4, 4, 4, 4);
        Bank.pairAll(veterans, 6);
        s.due("home(110) of six of 55", veterans.home(110), 0);
        s.due("home(111) of six of 55", veterans.home(111), 31);
        s.due("home(120) of six of 55", veterans.home(120), 31);
        RiverChoice spies = Bank.ofKinds(5, 5);
        spies.pair(1, 0);
        s.due("home(0) of two spies", spies.home(0), 0);
        s.due("home(1) of two spies", spies.home(1), 1);
    }

    private void homeLeast() {
        s.sentence(0, "HOME: the fewest MEN sent home (bits; of like ones the least)");
        RiverChoice ring = Bank.men(6);
        for (int man = 0; man < 6; man++) {
            ring.pair(man, (man + 1) % 6);
        }
        s.due("of a ring of six", ring.home(120), 21);
        RiverChoice star = Bank.men(6);
        for (int man = 0; man < 5; man++) {
            star.pair(5, man);
        }
        s.due("the fewest though not the least", star.home(51), 32);
        s.due("a star of 50 together", star.home(50), 0);
        RiverChoice pairs = Bank.men(6);
        pairs.pair(0, 1);
        pairs.pair(2, 3);
        pairs.pair(4, 5);
        s.due("of three pairs", pairs.home(51), 21);
    }

    private void spyAllNone() {
        s.sentence(0, "SPY: how much less (of 60) TRUST of a MAN is than if his WEIGHT of SPY were 0 (all 0 then: 60 less TRUST).");
        for (int spies = 1; spies <= 9; spies++) {
            s.due("spy(0) of " + spies + " of a spy alone", Bank.one(0, 0, 0, 0, 0, spies).spy(0), 60);
        }
        s.due("of a plain one and a spy", Bank.one(1, 0, 0, 0, 0, 1).spy(0), 15);
        s.due("of a veteran and nine of a spy", Bank.one(0, 0, 0, 0, 1, 9).spy(0), 50);
        s.due("of a boaster and nine of a spy", Bank.one(0, 0, 0, 1, 0, 9).spy(0), 5);
        for (int kind = 0; kind < 5; kind++) {
            s.due("no spy, of kind " + kind, Bank.ofKinds(kind).spy(0), 0);
        }
    }

    // ---- the promises

    private void hold() {
        s.sentence(17, "HOLD is THE FRACTION: 1. BAD.");
        RiverChoice x = Bank.ofKinds(0, 0);
        fraction("two of half", x, 3, 1, 3, 4);
        s.refused(x, BAD, "hold(4, 1)", -2, () -> x.hold(4, 1));
        s.refused(x, BAD, "hold(-1, 1)", -2, () -> x.hold(-1, 1));
        s.refused(x, BAD, "hold(3, 7)", -2, () -> x.hold(3, 7));
        s.refused(x, BAD, "hold(3, -1)", -2, () -> x.hold(3, -1));
        s.due("part(1) as ahead of those", x.part(1), 4);
        fraction("none of two", x, 0, 0, 1, 1);
        fraction("one of none", x, 0, 1, 0, 1);
        fraction("none at all", new RiverChoice(), 0, 0, 1, 1);
    }

    private void keepNone() {
        s.sentence(18, "KEEP, as bits. NONE: k is more than there are.");
        for (int n = 0; n < 6; n++) {
            final RiverChoice x = Bank.men(n);
            final int size = n;
            s.changesNothing(x, "keep(" + n + ", 6) of " + n, (1 << n) - 1, () -> x.keep(size, 6));
            s.changesNothing(x, "keep(" + (n + 1) + ", 0) of " + n, -1, () -> x.keep(size + 1, 0));
            s.changesNothing(x, "keep(6, 6) of " + n, -1, () -> x.keep(6, 6));
        }
        RiverChoice six = Bank.men(6);
        s.changesNothing(six, "keep(6, 6) of six", 63, () -> six.keep(6, 6));
    }

    private void keepBad() {
        s.sentence(18, "BAD: -10.");
        for (int n = 0; n <= 6; n += 3) {
            final int size = n;
            s.badBeyond(0, 6, () -> Bank.men(size), "keep(#, 0) of " + n, -10, (x, k) -> x.keep(k, 0));
            s.badBeyond(0, 6, () -> Bank.men(size), "keep(0, #) of " + n, -10, (x, j) -> x.keep(0, j));
            s.badBeyond(0, 6, () -> Bank.men(size), "keep(6, #) of " + n, -10, (x, j) -> x.keep(6, j));
        }
    }

    private void worthBad() {
        s.sentence(19, "WORTH (it may be below 0). BAD: -100000000");
        RiverChoice none = new RiverChoice();
        s.refused(none, BAD, "worth(0, 0, 0, 0) of no men", BAD_WORTH, () -> none.worth(0, 0, 0, 0));
        RiverChoice dark = Bank.inLight(1, 1, 1, 1, 1, 1, 1);
        s.refused(dark, BAD, "BAD is looked at first: the man", BAD_WORTH, () -> dark.worth(1, 0, 0, 0));
        s.refused(dark, BAD, "BAD is looked at first: the test", BAD_WORTH, () -> dark.worth(0, 3, 0, 0));
        s.refused(dark, BAD, "BAD is looked at first: k", BAD_WORTH, () -> dark.worth(0, 0, 4, 0));
        s.refused(dark, BAD, "BAD is looked at first: j", BAD_WORTH, () -> dark.worth(0, 0, 2, 7));
    }

    private void worthNo() {
        s.sentence(19, "NO: DAYLIGHT is less than it costs, k is more than there are: -200000000.");
        int[] cost = {2, 5, 3};
        int[] worths = {-47, -48, -46};
        for (int test = 0; test < 3; test++) {
            final int t = test;
            RiverChoice dark = Bank.inLight(cost[test] - 1, 1, 1, 1, 1, 1, 1);
            s.refused(dark, NO, "worth(0, " + test + ", 1, 1) in too little light", NO_WORTH, () -> dark.worth(0, t, 1, 1));
            RiverChoice x = Bank.inLight(cost[test], 1, 1, 1, 1, 1, 1);
            s.changesNothing(x, "worth(0, " + test + ", 1, 1) in just enough", worths[test], () -> x.worth(0, t, 1, 1));
            s.refused(x, NO, "k of one more", NO_WORTH, () -> x.worth(0, t, 2, 1));
        }
    }

    private void bestBad() {
        s.sentence(20, "BAD: -10.");
        for (int n = 0; n <= 6; n += 3) {
            final int size = n;
            s.badBeyond(0, 3, () -> Bank.men(size), "best(#, 0) of " + n, -10, (x, k) -> x.best(k, 0));
            s.badBeyond(0, 6, () -> Bank.men(size), "best(0, #) of " + n, -10, (x, j) -> x.best(0, j));
            s.badBeyond(0, 6, () -> Bank.men(size), "best(3, #) of " + n, -10, (x, j) -> x.best(3, j));
        }
        RiverChoice dark = Bank.inLight(0, 1, 1, 1, 1, 1, 1);
        s.refused(dark, BAD, "best(4, 0) in the dark", -10, () -> dark.best(4, 0));
    }

    private void siftHowMany() {
        s.sentence(21, "SIFT: how many (i = NONE), the i-th.");
        RiverChoice x = Bank.men(1);
        s.changesNothing(x, "sift(0, 25, -1)", 0, () -> x.sift(0, 25, -1));
        s.changesNothing(x, "sift(0, 26, -1)", 1, () -> x.sift(0, 26, -1));
        s.changesNothing(x, "sift(0, 26, 0)", 0, () -> x.sift(0, 26, 0));
        s.changesNothing(x, "sift(0, 44, -1)", 2, () -> x.sift(0, 44, -1));
        s.changesNothing(x, "sift(0, 44, 1)", 2, () -> x.sift(0, 44, 1));
        s.changesNothing(x, "sift(0, 51, -1)", 3, () -> x.sift(0, 51, -1));
        s.changesNothing(x, "sift(0, 51, 2)", 2, () -> x.sift(0, 51, 2));
    }

    private void siftNone() {
        s.sentence(21, "NONE: none.");
        for (int i : new int[] {-1, 0, 1, 2, 3, 4, 2147483647}) {
            RiverChoice x = Bank.men(1);
            s.changesNothing(x, "sift(0, 52, " + i + ")", -1, () -> x.sift(0, 52, i));
            RiverChoice dark = Bank.inLight(1, 1, 1, 1, 1, 1, 1);
            s.changesNothing(dark, "sift(0, 26, " + i + ") in light of 1", -1, () -> dark.sift(0, 26, i));
        }
    }

    private void siftNotSoMany() {
        s.sentence(21, "-5: not so many.");
        int[] t = {0, 26, 44, 51};
        for (int size = 0; size < 4; size++) {
            final int row = t[size];
            RiverChoice x = Bank.men(1);
            s.due("sift(0, " + row + ", -1)", x.sift(0, row, -1), size);
            for (int i = 0; i < size; i++) {
                s.due("there is a test " + i + " of " + size, x.sift(0, row, i) >= 0 ? 1 : 0, 1);
            }
            for (int i : new int[] {size, size + 1, size + 2, 3, 4, 60, 2147483647}) {
                s.changesNothing(x, "sift(0, " + row + ", " + i + ")", -5, () -> x.sift(0, row, i));
            }
        }
    }

    private void siftBad() {
        s.sentence(21, "BAD: -10.");
        s.badBeyond(0, 0, () -> Bank.men(1), "sift(#, 0, -1)", -10, (x, m) -> x.sift(m, 0, -1));
        s.badBeyond(0, 60, () -> Bank.men(1), "sift(0, #, 0)", -10, (x, t) -> x.sift(0, t, 0));
        for (int t = 0; t <= 60; t += 60) {
            final int row = t;
            s.badBeyond(-1, 2147483647, () -> Bank.men(1), "sift(0, " + t + ", #)", -10, (x, i) -> x.sift(0, row, i));
        }
    }

    private void runs() {
        s.sentence(22, "RUNS from a MAN on, as bits. BAD.");
        RiverChoice none = new RiverChoice();
        s.refused(none, BAD, "runs(0) of no men", -2, () -> none.runs(0));
        RiverChoice x = Bank.inLight(0, 1, 1, 1, 1, 1, 1);
        s.changesNothing(x, "runs(0) of one, in the dark", 0, () -> x.runs(0));
        s.refused(x, BAD, "runs(1)", -2, () -> x.runs(1));
        s.refused(x, BAD, "runs(-1)", -2, () -> x.runs(-1));
        x.word(0);
        s.changesNothing(x, "runs(0) of one who knows", 1, () -> x.runs(0));
        RiverChoice six = Bank.men(6);
        s.changesNothing(six, "runs(0) of six", 62, () -> six.runs(0));
        s.changesNothing(six, "runs(5) of six", 0, () -> six.runs(5));
        s.refused(six, BAD, "runs(6)", -2, () -> six.runs(6));
    }

    private void home() {
        s.sentence(23, "HOME, as bits. BAD.");
        for (int n = 0; n <= 6; n++) {
            final RiverChoice x = Bank.men(n);
            Bank.pairAll(x, n);
            s.changesNothing(x, "home(0) of " + n, 0, () -> x.home(0));
            s.changesNothing(x, "home(50) of " + n, 0, () -> x.home(50));
            s.changesNothing(x, "home(51) of " + n, n < 2 ? 0 : (1 << n - 1) - 1, () -> x.home(51));
            s.changesNothing(x, "home(120) of " + n, n < 2 ? 0 : (1 << n - 1) - 1, () -> x.home(120));
            s.refused(x, BAD, "home(121) of " + n, -2, () -> x.home(121));
            s.refused(x, BAD, "home(-1) of " + n, -2, () -> x.home(-1));
        }
    }

    private void spy() {
        s.sentence(24, "SPY. BAD.");
        RiverChoice x = Bank.ofKinds(4, 5);
        s.changesNothing(x, "spy(0) of a veteran", 0, () -> x.spy(0));
        s.changesNothing(x, "spy(1) of a spy", 60, () -> x.spy(1));
        s.refused(x, BAD, "spy(2)", -2, () -> x.spy(2));
        s.refused(x, BAD, "spy(-1)", -2, () -> x.spy(-1));
        RiverChoice none = new RiverChoice();
        s.refused(none, BAD, "spy(0) of no men", -2, () -> none.spy(0));
    }
}
