/** Looks, who is looked at next, boasters, the river once more, men drawn: promises 25 to 29 and their terms. */
final class EdgesOfLooks {
    private static final int BAD = RiverChoice.BAD;
    private static final int NO = RiverChoice.NO;

    private final Sentences s;

    EdgesOfLooks(Sentences s) {
        this.s = s;
    }

    void look() {
        setsOfAll();
        setsOfAny();
        noSet();
        nextToldByOthers();
        nextBySetOfAll();
        nextFirst();
        boastPays();
        boastKneels();
        boastShares();
        boastRests();
        againByWord();
        drawnSeeds();
        drawnWraps();
        drawnBelowTrust();
        drawnDays();
        looks();
        looksBad();
        next();
        boastBad();
        boastNo();
        again();
        drawn();
    }

    // ---- the terms

    private static int number(int signs) {
        return Integer.bitCount(signs);
    }

    private void setsOfAll() {
        s.sentence(0, "LOOKS: some MEN (bits) were KEPT. ALL: sets of SIGNS (bits of 0 to 31) so that just those wear all of these");
        s.due("no men: all sets fit", new RiverChoice().looks(0, true, 0), 32);
        s.due("in all of them", new RiverChoice().looks(0, true, 1), 0);
        for (int signs = 0; signs <= 31; signs++) {
            RiverChoice x = Bank.wearing(signs);
            int kept = 1 << number(signs);
            s.due("looks(1, true, 0), wearing " + signs, x.looks(1, true, 0), kept);
            s.due("looks(1, true, 1), wearing " + signs, x.looks(1, true, 1), 0);
            s.due("looks(0, true, 0), wearing " + signs, x.looks(0, true, 0), 32 - kept);
            // one sign alone that he does not wear is in all such sets
            s.due("looks(0, true, 1), wearing " + signs, x.looks(0, true, 1), signs == 31 ? -1 : number(signs) == 4 ? 31 - signs : 0);
        }
        RiverChoice six = Bank.wearing(31, 31, 31, 31, 31, 15);
        s.due("five of six", six.looks(31, true, 0), 16);
        s.due("five of six, in all", six.looks(31, true, 1), 16);
        s.due("all six", six.looks(63, true, 0), 16);
        s.due("all six, in all", six.looks(63, true, 1), 0);
        RiverChoice lacking = Bank.wearing(30, 29, 27, 23, 15);
        s.due("each lacks one sign: the set of all signs alone", lacking.looks(0, true, 0), 1);
        s.due("each lacks one sign, in all", lacking.looks(0, true, 1), 31);
    }

    private void setsOfAny() {
        s.sentence(0, "ANY: just those wear any: how many; those in all of them");
        s.due("no men: all sets fit", new RiverChoice().looks(0, false, 0), 32);
        s.due("in all of them", new RiverChoice().looks(0, false, 1), 0);
        for (int signs = 0; signs <= 31; signs++) {
            RiverChoice x = Bank.wearing(signs);
            int none = 1 << 5 - number(signs);
            s.due("looks(0, false, 0), wearing " + signs, x.looks(0, false, 0), none);
            s.due("looks(0, false, 1), wearing " + signs, x.looks(0, false, 1), 0);
            s.due("looks(1, false, 0), wearing " + signs, x.looks(1, false, 0), 32 - none);
            s.due("looks(1, false, 1), wearing " + signs, x.looks(1, false, 1), signs == 0 ? -1 : number(signs) == 1 ? signs : 0);
        }
        RiverChoice six = Bank.wearing(16, 17, 18, 20, 24, 15);
        s.due("five of six", six.looks(31, false, 0), 1);
        s.due("five of six, in all", six.looks(31, false, 1), 16);
        s.due("all six", six.looks(63, false, 0), 15);
        RiverChoice single = Bank.wearing(1, 2, 4, 8, 16);
        s.due("each wears one sign: the set of all signs alone", single.looks(31, false, 0), 1);
        s.due("each wears one sign, in all", single.looks(31, false, 1), 31);
    }

    private void noSet() {
        s.sentence(0, "(bits; none: no set).");
        RiverChoice x = Bank.wearing(5, 5);
        s.changesNothing(x, "looks(1, true, 0) of two alike", 0, () -> x.looks(1, true, 0));
        s.changesNothing(x, "looks(1, true, 1) of two alike", -1, () -> x.looks(1, true, 1));
        s.changesNothing(x, "looks(2, false, 0) of two alike", 0, () -> x.looks(2, false, 0));
        s.changesNothing(x, "looks(2, false, 1) of two alike", -1, () -> x.looks(2, false, 1));
        RiverChoice bare = Bank.wearing(0);
        s.changesNothing(bare, "looks(1, true, 0) of one who wears none: the empty set", 1, () -> bare.looks(1, true, 0));
        s.changesNothing(bare, "looks(1, true, 1) of one who wears none", 0, () -> bare.looks(1, true, 1));
        s.changesNothing(bare, "looks(1, false, 1) of one who wears none", -1, () -> bare.looks(1, false, 1));
    }

    private void nextToldByOthers() {
        s.sentence(0, "NEXT: the MAN whose being KEPT or not, were it forgotten, is not told by sets (ALL) that fit all others");
        for (int signs = 0; signs <= 31; signs++) {
            RiverChoice x = Bank.wearing(signs);
            // without others all sets fit; one who wears all signs is in each of them
            s.due("next(0), wearing " + signs, x.next(0), signs == 31 ? -1 : 0);
            s.due("next(1), wearing " + signs, x.next(1), signs == 31 ? -1 : 0);
        }
        RiverChoice alike = Bank.wearing(9, 9, 9, 9, 9, 9);
        s.due("alike men, all kept", alike.next(63), -1);
        s.due("alike men, none kept", alike.next(0), -1);
        RiverChoice x = Bank.wearing(1, 3);
        // 1 wears all that 0 wears: he is told by 0 who is kept, not by 0 who is not
        s.due("next(3) of 1 and 3", x.next(3), 0);
        s.due("next(2) of 1 and 3", x.next(2), 0);
        s.due("next(0) of 1 and 3", x.next(0), 1);
        s.due("next(1) of 1 and 3: each is told, though wrongly, by the other", x.next(1), -1);
    }

    private void nextBySetOfAll() {
        s.sentence(0, "sets of SIGNS (bits of 0 to 31)");
        RiverChoice lacking = Bank.wearing(30, 29, 27, 23, 15);
        // the others leave the set that lacks what he lacks, and the set of all signs
        s.due("next(0) of five who lack one sign each", lacking.next(0), 0);
        RiverChoice bare = Bank.wearing(31, 16, 8);
        // 2 leaves the empty set, all signs of which 1 wears, and that of 8, which he does not
        s.due("next(7): the empty set and one more", bare.next(7), 1);
        s.due("next(5): the empty set and one more", bare.next(5), 1);
    }

    private void nextFirst() {
        s.sentence(0, "the first; none.");
        s.due("no men", new RiverChoice().next(0), -1);
        RiverChoice last = Bank.wearing(0, 0, 0, 0, 0, 15);
        s.due("the last alone is open", last.next(0), 5);
        s.due("the last alone is open, kept or not", last.next(32), 5);
        RiverChoice first = Bank.wearing(1, 2, 4, 8, 16, 31);
        s.due("the first of more", first.next(32), 0);
        RiverChoice second = Bank.wearing(31, 15, 7, 3, 1, 0);
        s.due("the first wears all", second.next(63), 5);
        s.due("the first wears all", second.next(1), 1);
        s.due("the first wears all, three kept", second.next(7), 2);
    }

    private static RiverChoice two(int[] a, int[] b) {
        RiverChoice x = new RiverChoice();
        x.man(a[0], a[1], a[2], a[3], a[4], a[5]);
        x.man(b[0], b[1], b[2], b[3], b[4], b[5]);
        Bank.wordToAll(x, 2);
        return x;
    }

    private static final int[][] MEN = {{0, 0, 0, 0, 0, 1}, {7, 0, 0, 0, 0, 4}, {2, 0, 0, 0, 0, 1}, {9, 9, 9, 1, 0, 0}, {1, 0, 0, 0, 0, 0}, {0, 0, 0, 0, 1, 0}};
    private static final int[] TRUSTS = {0, 19, 20, 29, 30, 55};

    private void boastPays() {
        s.sentence(0, "BOAST: two MEN who know WORD may lap (1) or kneel (0): one who laps alone is KEPT (4)");
        for (int a = 0; a < 6; a++) {
            for (int b = 0; b < 6; b++) {
                RiverChoice x = two(MEN[a], MEN[b]);
                s.due("trust of the one", x.trust(0), TRUSTS[a]);
                s.due("trust of the other", x.trust(1), TRUSTS[b]);
                // both kneeling never rests, as each would rather lap alone: 4 is more than 3 and more than 1
                s.due("the first pair is not that both kneel", x.boast(0, 1, 1) > 0 ? 1 : 0, 1);
            }
        }
    }

    private void boastKneels() {
        s.sentence(0, "one who kneels goes home (3, if TRUST is below 20, else 1)");
        RiverChoice below = two(MEN[1], MEN[1]);
        s.due("19 and 19: the one kneels, or the other", below.boast(0, 1, 0), 2);
        s.due("19 and 19: the first", below.boast(0, 1, 1), 1);
        RiverChoice at = two(MEN[2], MEN[2]);
        s.due("20 and 20: both lap", at.boast(0, 1, 0), 1);
        s.due("20 and 20: the first", at.boast(0, 1, 1), 11);
        RiverChoice both = two(MEN[1], MEN[2]);
        s.due("19 and 20: the one kneels", both.boast(0, 1, 0), 1);
        s.due("19 and 20: the first", both.boast(0, 1, 1), 1);
        s.due("20 and 19: the other kneels", both.boast(1, 0, 0), 1);
        s.due("20 and 19: the first", both.boast(1, 0, 1), 10);
    }

    private void boastShares() {
        s.sentence(0, "both who lap share it (2 each less TRUST by 30, cut)");
        RiverChoice below = two(MEN[3], MEN[3]);
        s.due("29 and 29: both lap", below.boast(0, 1, 0), 1);
        s.due("29 and 29: the first", below.boast(0, 1, 1), 11);
        RiverChoice at = two(MEN[4], MEN[4]);
        s.due("30 and 30: all but that both kneel", at.boast(0, 1, 0), 3);
        s.due("30 and 30: the first", at.boast(0, 1, 1), 1);
        RiverChoice most = two(MEN[5], MEN[5]);
        s.due("55 and 55: as 30 and 30", most.boast(0, 1, 0), 3);
        RiverChoice both = two(MEN[3], MEN[4]);
        s.due("29 and 30: the other may kneel", both.boast(0, 1, 0), 2);
        s.due("29 and 30: the first", both.boast(0, 1, 1), 10);
        s.due("30 and 29: the one may kneel", both.boast(1, 0, 0), 2);
        s.due("30 and 29: the first", both.boast(1, 0, 1), 1);
    }

    private void boastRests() {
        s.sentence(0, "pairs that rest (neither would get more by doing otherwise): how many, the first (10 the one and the other).");
        // by trust 0, 19, 20, 29, 30, 55 of the one, and so of the other
        int[][] pairs = {{2, 2, 1, 1, 2, 2}, {2, 2, 1, 1, 2, 2}, {1, 1, 1, 1, 2, 2}, {1, 1, 1, 1, 2, 2}, {2, 2, 2, 2, 3, 3}, {2, 2, 2, 2, 3, 3}};
        int[][] first = {{1, 1, 1, 1, 1, 1}, {1, 1, 1, 1, 1, 1}, {10, 10, 11, 11, 10, 10}, {10, 10, 11, 11, 10, 10}, {1, 1, 1, 1, 1, 1}, {1, 1, 1, 1, 1, 1}};
        for (int a = 0; a < 6; a++) {
            for (int b = 0; b < 6; b++) {
                RiverChoice x = two(MEN[a], MEN[b]);
                s.due("boast of " + TRUSTS[a] + " and " + TRUSTS[b] + ", how many", x.boast(0, 1, 0), pairs[a][b]);
                s.due("boast of " + TRUSTS[a] + " and " + TRUSTS[b] + ", the first", x.boast(0, 1, 1), first[a][b]);
            }
        }
    }

    private void againByWord() {
        s.sentence(0, "RIVER again: how likely (of 60, cut) a MAN who shows it there (WORD as it is) shows it once more, his WEIGHTS being as behind it, WORD having reached him.");
        int[] want = {30, 45, 15, 55, 20, 55};
        for (int kind = 0; kind < 6; kind++) {
            RiverChoice x = Bank.ofKinds(kind);
            s.due("of kind " + kind, x.again(0), want[kind]);
            x.word(0);
            s.due("of kind " + kind + ", who knows", x.again(0), want[kind]);
        }
        RiverChoice x = Bank.one(0, 0, 1, 1, 0, 0);
        // 3 and 3 become 1 and 1: 14 of 24; knowing, 3 and 11: 130 of 168
        s.due("of a timid one or a boaster", x.again(0), 35);
        x.word(0);
        s.due("of a timid one or a boaster who knows", x.again(0), 46);
        RiverChoice large = Bank.inLight(99, 0, 0, 1, 0, 1, 0);
        for (int i = 0; i < 8; i++) {
            large.test(0, 1, true);
        }
        // 3 and 4 times 390625 are halved once, to 1 and 781250
        s.due("weights that are halved", large.again(0), 19);
    }

    private void drawnSeeds() {
        s.sentence(0, "DRAWN by a SEED (0 .. 999999) of some MEN (bits): X is SEED at first");
        // X by 65536 and by 60 is told for each: below 30 he holds
        int[] seeds = {0, 1, 2, 3, 4, 5, 999994, 999995, 999996, 999997, 999998, 999999};
        int[] left = {0, 38, 8, 47, 17, 55, 33, 11, 41, 19, 50, 28};
        RiverChoice x = Bank.ofKinds(0);
        for (int i = 0; i < seeds.length; i++) {
            s.due("drawn(1, 1, " + seeds[i] + ")", x.drawn(1, 1, seeds[i]), left[i] < 30 ? 1 : 0);
        }
        s.badBeyond(0, 999999, () -> Bank.men(1), "drawn(1, 1, #)", -2, (y, seed) -> y.drawn(1, 1, seed));
    }

    private void drawnWraps() {
        s.sentence(0, "for each, by numbers, X becomes X times 1103515245 and 12345, by 2147483648 what is left over");
        // 1: 1103527590 is below 2147483648; 2: 2207042835 is above it by 59559187
        RiverChoice x = Bank.ofKinds(0, 1);
        s.due("drawn(2, 1, 1): 38 is below 50", x.drawn(2, 1, 1), 1);
        s.due("drawn(1, 1, 1): 38 is not below 30", x.drawn(1, 1, 1), 0);
        s.due("drawn(1, 1, 2): 8", x.drawn(1, 1, 2), 1);
        s.due("drawn(2, 1, 5): 55", x.drawn(2, 1, 5), 0);
        RiverChoice six = Bank.ofKinds(0, 1, 2, 3, 4, 5);
        int[] trusts = {30, 50, 10, 5, 55, 0};
        for (int seed = 0; seed <= 999999; seed += 55555) {
            for (int men = 0; men < 64; men += 9) {
                s.due("drawn(" + men + ", 30, " + seed + ")", six.drawn(men, 30, seed), heldBy(men, 30, seed, trusts));
            }
        }
        RiverChoice last = Bank.ofKinds(0, 1, 2, 3, 4, 5);
        s.due("drawn(63, 30, 999999)", last.drawn(63, 30, 999999), heldBy(63, 30, 999999, trusts));
    }

    private static int heldBy(int men, int days, int seed, int[] trusts) {
        java.math.BigInteger x = java.math.BigInteger.valueOf(seed);
        int held = 0;
        for (int i = 0; i < days * 6; i++) {
            int man = i % 6;
            if ((men >> man & 1) == 1) {
                x = x.multiply(java.math.BigInteger.valueOf(1103515245)).add(java.math.BigInteger.valueOf(12345)).mod(java.math.BigInteger.TWO.pow(31));
                held += x.shiftRight(16).longValue() % 60 < trusts[man] ? 1 : 0;
            }
        }
        return held;
    }

    private void drawnBelowTrust() {
        s.sentence(0, "X by 65536 (cut), by 60 left over, less than TRUST: he HOLDS");
        // the seeds whose first X leaves so much
        int[] left = {0, 28, 29, 30, 31, 53, 54, 55, 56, 59};
        int[] seeds = {0, 78, 134, 13, 43, 68, 98, 5, 19, 121};
        RiverChoice x = Bank.ofKinds(0, 4, 5);
        x.man(7, 0, 0, 0, 0, 4);
        for (int i = 0; i < seeds.length; i++) {
            s.due("of trust 30, left " + left[i], x.drawn(1, 1, seeds[i]), left[i] < 30 ? 1 : 0);
            s.due("of trust 55, left " + left[i], x.drawn(2, 1, seeds[i]), left[i] < 55 ? 1 : 0);
            s.due("of trust 0, left " + left[i], x.drawn(4, 1, seeds[i]), 0);
            s.due("of trust 19, left " + left[i], x.drawn(8, 1, seeds[i]), left[i] < 19 ? 1 : 0);
        }
    }

    private void drawnDays() {
        s.sentence(0, "how many (each DAY of n, 0 .. 30, together).");
        RiverChoice x = Bank.ofKinds(0, 1, 2, 3, 4, 5);
        int[] trusts = {30, 50, 10, 5, 55, 0};
        for (int n = 0; n <= 30; n++) {
            s.due("drawn(63, " + n + ", 7)", x.drawn(63, n, 7), heldBy(63, n, 7, trusts));
            s.due("drawn(0, " + n + ", 7)", x.drawn(0, n, 7), 0);
        }
        s.badBeyond(0, 30, () -> Bank.men(1), "drawn(1, #, 1)", -2, (y, n) -> y.drawn(1, n, 1));
        s.badBeyond(0, 30, RiverChoice::new, "drawn(0, #, 0)", -2, (y, n) -> y.drawn(0, n, 0));
    }

    // ---- the promises

    private void looks() {
        s.sentence(25, "ALL (all), ANY: how many (0), those in all of them (1; bits; NONE).");
        RiverChoice x = Bank.wearing(3, 7, 12, 0, 31, 4);
        int[] signs = {3, 7, 12, 0, 31, 4};
        for (int all = 0; all < 2; all++) {
            for (int men = 0; men < 64; men++) {
                int sets = 0;
                int common = -1;
                for (int set = 0; set < 32; set++) {
                    boolean fits = true;
                    for (int man = 0; man < 6; man++) {
                        boolean wears = all == 1 ? (set & ~signs[man]) == 0 : (set & signs[man]) != 0;
                        fits &= wears == (men >> man & 1) > 0;
                    }
                    common = fits ? sets == 0 ? set : common & set : common;
                    sets += fits ? 1 : 0;
                }
                s.due("looks(" + men + ", " + (all == 1) + ", 0)", x.looks(men, all == 1, 0), sets);
                s.due("looks(" + men + ", " + (all == 1) + ", 1)", x.looks(men, all == 1, 1), common);
            }
        }
    }

    private void looksBad() {
        s.sentence(25, "BAD: -10.");
        for (int all = 0; all < 2; all++) {
            final boolean a = all == 1;
            s.badBeyond(0, 1, () -> Bank.men(6), "looks(63, " + a + ", #)", -10, (x, what) -> x.looks(63, a, what));
            s.badBeyond(0, 1, RiverChoice::new, "looks(0, " + a + ", #)", -10, (x, what) -> x.looks(0, a, what));
            s.badBeyond(0, 63, () -> Bank.men(6), "looks(#, " + a + ", 1)", -10, (x, men) -> x.looks(men, a, 1));
            s.badBeyond(0, 0, RiverChoice::new, "looks(#, " + a + ", 1) of no men", -10, (x, men) -> x.looks(men, a, 1));
        }
    }

    private void next() {
        s.sentence(26, "NEXT. NONE. BAD: -10.");
        RiverChoice none = new RiverChoice();
        s.changesNothing(none, "next(0) of no men", -1, () -> none.next(0));
        s.refused(none, BAD, "next(1) of no men", -10, () -> none.next(1));
        s.refused(none, BAD, "next(-1) of no men", -10, () -> none.next(-1));
        RiverChoice x = Bank.wearing(31, 31);
        s.changesNothing(x, "next(3)", -1, () -> x.next(3));
        s.refused(x, BAD, "next(4)", -10, () -> x.next(4));
        RiverChoice y = Bank.wearing(1, 2, 4, 8, 16, 0);
        s.changesNothing(y, "next(0) of six", 0, () -> y.next(0));
        s.changesNothing(y, "next(63) of six", -1, () -> y.next(63));
        s.refused(y, BAD, "next(64) of six", -10, () -> y.next(64));
    }

    private void boastBad() {
        s.sentence(27, "BOAST: how many (0), the first (1; NONE). BAD: alike, too");
        RiverChoice x = Bank.men(3);
        Bank.wordToAll(x, 3);
        s.changesNothing(x, "boast(0, 2, 0)", 1, () -> x.boast(0, 2, 0));
        s.changesNothing(x, "boast(2, 0, 1)", 11, () -> x.boast(2, 0, 1));
        for (int man = -1; man <= 3; man++) {
            final int m = man;
            s.refused(x, BAD, "boast(" + m + ", " + m + ", 0)", -2, () -> x.boast(m, m, 0));
        }
        s.refused(x, BAD, "boast(0, 3, 0)", -2, () -> x.boast(0, 3, 0));
        s.refused(x, BAD, "boast(3, 0, 0)", -2, () -> x.boast(3, 0, 0));
        s.refused(x, BAD, "boast(-1, 0, 0)", -2, () -> x.boast(-1, 0, 0));
        s.badBeyond(0, 1, () -> two(MEN[0], MEN[5]), "boast(0, 1, #)", -2, (y, what) -> y.boast(0, 1, what));
        s.badBeyond(0, 1, () -> Bank.men(2), "boast(0, 1, #), neither knowing", -2, (y, what) -> y.boast(0, 1, what));
        RiverChoice unknowing = Bank.men(2);
        s.refused(unknowing, BAD, "BAD is looked at first: alike", -2, () -> unknowing.boast(1, 1, 0));
        s.refused(unknowing, BAD, "BAD is looked at first: the other", -2, () -> unknowing.boast(1, 2, 0));
    }

    private void boastNo() {
        s.sentence(27, "NO: one does not know WORD.");
        for (int what = 0; what < 2; what++) {
            final int w = what;
            RiverChoice x = Bank.men(2);
            s.refused(x, NO, "neither knows", -3, () -> x.boast(0, 1, w));
            x.word(1);
            s.refused(x, NO, "the one does not know", -3, () -> x.boast(0, 1, w));
            s.refused(x, NO, "the other does not know", -3, () -> x.boast(1, 0, w));
            x.word(0);
            s.due("both know", x.boast(0, 1, w), w == 0 ? 1 : 11);
        }
        RiverChoice y = Bank.men(3);
        y.test(1, 0, true);
        s.due("both by a test beside them", y.boast(0, 2, 1), 11);
        s.refused(y, NO, "he who stood between them does not", -3, () -> y.boast(0, 1, 1));
    }

    private void again() {
        s.sentence(28, "RIVER again. BAD.");
        RiverChoice x = Bank.inLight(0, 1, 1, 1, 1, 1, 1);
        s.changesNothing(x, "again(0) in the dark", 37, () -> x.again(0));
        s.refused(x, BAD, "again(1)", -2, () -> x.again(1));
        s.refused(x, BAD, "again(-1)", -2, () -> x.again(-1));
        RiverChoice none = new RiverChoice();
        s.refused(none, BAD, "again(0) of no men", -2, () -> none.again(0));
        RiverChoice six = Bank.men(6);
        s.changesNothing(six, "again(5) of six", 37, () -> six.again(5));
        s.refused(six, BAD, "again(6) of six", -2, () -> six.again(6));
    }

    private void drawn() {
        s.sentence(29, "DRAWN. BAD.");
        RiverChoice x = Bank.ofKinds(0, 0);
        s.changesNothing(x, "drawn(0, 30, 999999)", 0, () -> x.drawn(0, 30, 999999));
        s.changesNothing(x, "drawn(3, 0, 0)", 0, () -> x.drawn(3, 0, 0));
        s.refused(x, BAD, "drawn(4, 0, 0)", -2, () -> x.drawn(4, 0, 0));
        s.refused(x, BAD, "drawn(-1, 0, 0)", -2, () -> x.drawn(-1, 0, 0));
        s.refused(x, BAD, "drawn(3, 31, 0)", -2, () -> x.drawn(3, 31, 0));
        s.refused(x, BAD, "drawn(3, 0, 1000000)", -2, () -> x.drawn(3, 0, 1000000));
        RiverChoice none = new RiverChoice();
        s.changesNothing(none, "drawn(0, 30, 0) of no men", 0, () -> none.drawn(0, 30, 0));
        s.refused(none, BAD, "drawn(1, 30, 0) of no men", -2, () -> none.drawn(1, 30, 0));
    }
}
