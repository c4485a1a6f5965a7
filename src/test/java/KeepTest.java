/** Promises 17 to 24: whom to keep. */
public final class KeepTest {
    private static final Due DUE = new Due();
    private static final int BAD_WORTH = -100000000;
    private static final int NO_WORTH = -200000000;

    public static void main(String[] args) {
        hold();
        keep();
        worth();
        best();
        sift();
        siftInOrder();
        runs();
        home();
        spy();
        DUE.end();
    }

    private static void due(String call, long got, long want) {
        DUE.due(call, got, want);
    }

    /** One man of each kind: of trust 30, 50, 10, 5, 55, 0. */
    private static RiverChoice six() {
        RiverChoice x = new RiverChoice();
        x.man(1, 0, 0, 0, 0, 0);
        x.man(0, 1, 0, 0, 0, 0);
        x.man(0, 0, 1, 0, 0, 0);
        x.man(0, 0, 0, 1, 0, 0);
        x.man(0, 0, 0, 0, 1, 0);
        x.man(0, 0, 0, 0, 0, 1);
        return x;
    }

    private static void fraction(RiverChoice x, int men, int j, long above, long below) {
        String call = "17: hold(" + men + ", " + j + ")";
        due(call, x.hold(men, j), 1);
        due(call + " above", x.part(0), above);
        due(call + " below", x.part(1), below);
    }

    private static void hold() {
        RiverChoice x = six();
        fraction(x, 0, 0, 1, 1);
        fraction(x, 0, 1, 0, 1);
        fraction(x, 1, 1, 1, 2);
        fraction(x, 3, 1, 11, 12);
        fraction(x, 3, 2, 5, 12);
        fraction(x, 19, 2, 7, 8);
        fraction(x, 32, 1, 0, 1);
        fraction(x, 63, 6, 0, 1);
        fraction(x, 63, 0, 1, 1);
        // 1/2 * 5/6 * 1/6 * 1/12 * 11/12
        fraction(x, 63, 5, 55, 10368);
        fraction(x, 31, 6, 0, 1);
        due("17: hold(64, 0)", x.hold(64, 0), -2);
        due("17: hold(-1, 0)", x.hold(-1, 0), -2);
        due("17: hold(1, 7)", x.hold(1, 7), -2);
        due("17: hold(1, -1)", x.hold(1, -1), -2);
        due("17: status", x.status(0), 4);
        fraction(x, 1, 0, 1, 1);
        RiverChoice y = new RiverChoice();
        due("17: no such man", y.hold(1, 0), -2);
        due("17: the fraction stays", y.part(0) * 10 + y.part(1), 1);
    }

    private static void keep() {
        RiverChoice x = six();
        due("18: keep(0, 0)", x.keep(0, 0), 0);
        due("18: keep(1, 1)", x.keep(1, 1), 16);
        due("18: keep(2, 1)", x.keep(2, 1), 18);
        due("18: keep(3, 1)", x.keep(3, 1), 19);
        due("18: keep(6, 1)", x.keep(6, 1), 63);
        due("18: of like ones the least", x.keep(2, 0), 3);
        due("18: more than they are", x.keep(3, 4), 7);
        due("18: keep(7, 0)", x.keep(7, 0), -10);
        due("18: keep(-1, 0)", x.keep(-1, 0), -10);
        due("18: keep(0, 7)", x.keep(0, 7), -10);
        due("18: keep(0, -1)", x.keep(0, -1), -10);
        due("18: status", x.status(0), 4);
        RiverChoice y = new RiverChoice();
        due("18: none are there", y.keep(0, 6), 0);
        due("18: NONE", y.keep(1, 0), -1);
        due("18: keep(7, 0) of none", y.keep(7, 0), -10);
        due("18: NONE is not refused", y.status(0) + y.status(1), 1);
        y.man(1, 0, 0, 0, 0, 0);
        y.man(2, 0, 0, 0, 0, 0);
        y.man(3, 0, 0, 0, 0, 0);
        due("18: three alike", y.keep(2, 1), 3);
        due("18: NONE of three", y.keep(4, 1), -1);
    }

    private static void worth() {
        RiverChoice x = new RiverChoice();
        x.man(1, 1, 1, 1, 1, 1);
        x.man(1, 0, 0, 0, 0, 0);
        // shows 23 of 60: trust 31 then, else 20, so that 1 (of 30) is kept then; 30 now
        due("19: river", x.worth(0, 0, 1, 1), 23 * 31 + 37 * 30 - 60 * 30);
        due("19: none kept", x.worth(0, 0, 0, 0), 0);
        due("19: none needed", x.worth(0, 1, 2, 0), 0);
        due("19: too many needed", x.worth(0, 1, 2, 3), 0);
        due("19: a man of one kind", x.worth(1, 2, 1, 1), 0);
        long before = x.digest();
        due("19: worth(2, 0)", x.worth(2, 0, 1, 1), BAD_WORTH);
        due("19: worth(-1, 0)", x.worth(-1, 0, 1, 1), BAD_WORTH);
        due("19: worth(0, 3)", x.worth(0, 3, 1, 1), BAD_WORTH);
        due("19: worth(0, -1)", x.worth(0, -1, 1, 1), BAD_WORTH);
        due("19: k 4", x.worth(0, 0, 4, 1), BAD_WORTH);
        due("19: k -1", x.worth(0, 0, -1, 1), BAD_WORTH);
        due("19: j 7", x.worth(0, 0, 1, 7), BAD_WORTH);
        due("19: j -1", x.worth(0, 0, 1, -1), BAD_WORTH);
        due("19: k 3 of two", x.worth(0, 0, 3, 1), NO_WORTH);
        due("19: k 2 of two", x.worth(1, 0, 2, 1), 0);
        due("19: status", x.status(0) * 10 + x.status(1), 81);
        due("19: nothing changes", x.digest(), before);
        x.muster(4);
        x.man(2, 0, 0, 0, 0, 1);
        // 24 of 60 show by night: the cut makes it less than now
        due("19: too dark", x.worth(0, 1, 1, 1), NO_WORTH);
        due("19: BAD comes first", x.worth(0, 1, 1, 9), BAD_WORTH);
        due("19: bright enough", x.worth(0, 2, 1, 1), 15 * 26 + 45 * 17 - 60 * 20);
        due("19: status", x.status(0) * 10 + x.status(1), 92);
        brothersAreWeighed();
    }

    private static void brothersAreWeighed() {
        RiverChoice x = new RiverChoice();
        x.man(0, 1, 0, 0, 0, 1);
        x.man(0, 0, 1, 0, 0, 0);
        x.man(0, 3, 0, 0, 0, 1);
        x.pair(1, 2);
        // a timid one shows in 15 of 60: his brother's 3 to 1 become 27 to 3, else 9 to 9
        due("19: by a brother", x.worth(1, 0, 1, 1), 15 * 45 + 45 * 25 - 60 * 37);
        x.word(2);
        // by word 27 to 11, else 9 to 1
        due("19: by a brother who knows", x.worth(1, 0, 1, 1), 15 * 35 + 45 * 45 - 60 * 37);
    }

    private static void best() {
        RiverChoice x = new RiverChoice();
        due("20: no men", x.best(0, 0), -1);
        due("20: k is more", x.best(1, 0), -1);
        due("20: k 4", x.best(4, 0), -10);
        due("20: k -1", x.best(-1, 0), -10);
        due("20: j 7", x.best(0, 7), -10);
        due("20: j -1", x.best(0, -1), -10);
        due("20: status", x.status(0) * 10 + x.status(1), 40);
        x.muster(1);
        x.man(1, 1, 1, 1, 1, 1);
        due("20: no daylight", x.best(1, 1), -1);
        x.muster(2);
        x.man(1, 1, 1, 1, 1, 1);
        due("20: daylight for the river", x.best(0, 0), 0);
        due("20: k 1 of one", x.best(1, 0), 0);
        due("20: k 2 of one", x.best(2, 0), -1);
        x.muster(40);
        x.man(1, 0, 0, 0, 0, 0);
        x.man(2, 0, 0, 0, 0, 2);
        x.man(1, 1, 1, 1, 1, 1);
        due("20: of like ones the first", x.best(0, 0), 0);
        int best = 0;
        for (int man = 0; man < 3; man++) {
            for (int test = 0; test < 3; test++) {
                if (x.worth(man, test, 1, 1) > x.worth(best / 10, best % 10, 1, 1)) {
                    best = 10 * man + test;
                }
            }
        }
        due("20: of most worth", x.best(1, 1), best);
        RiverChoice y = new RiverChoice();
        y.man(1, 1, 0, 0, 0, 1);
        y.man(1, 1, 0, 1, 1, 1);
        long[] worths = {y.worth(0, 0, 1, 1), y.worth(0, 1, 1, 1), y.worth(0, 2, 1, 1), y.worth(1, 0, 1, 1), y.worth(1, 1, 1, 1), y.worth(1, 2, 1, 1)};
        int first = 0;
        for (int i = 1; i < 6; i++) {
            first = worths[i] > worths[first] ? i : first;
        }
        due("20: of most worth, of two", y.best(1, 1), first / 3 * 10 + first % 3);
        due("20: which is a shout or a night of the third", best / 10, 2);
        due("20: status", x.status(0) * 10 + x.status(1), 40);
    }

    private static void sift() {
        RiverChoice x = new RiverChoice();
        x.man(1, 1, 1, 1, 1, 1);
        due("21: none needed", x.sift(0, 25, -1), 0);
        due("21: the first of none", x.sift(0, 25, 0), -5);
        due("21: one test", x.sift(0, 26, -1), 1);
        due("21: the first that does", x.sift(0, 26, 0), 0);
        due("21: no second", x.sift(0, 26, 1), -5);
        due("21: a shout alone does", x.sift(0, 40, 0), 2);
        due("21: far off", x.sift(0, 40, 2147483647), -5);
        due("21: two tests", x.sift(0, 45, -1), 2);
        due("21: the first row", x.sift(0, 45, 0) * 10 + x.sift(0, 45, 1), 11);
        due("21: three tests", x.sift(0, 51, -1), 3);
        // three nights are 50 alone; two and a shout are the first row, though three shouts would do too
        due("21: the first row of three", x.sift(0, 51, 0) * 100 + x.sift(0, 51, 1) * 10 + x.sift(0, 51, 2), 112);
        due("21: no fourth", x.sift(0, 51, 3), -5);
        due("21: never", x.sift(0, 60, -1), -1);
        due("21: never, nor the fifth", x.sift(0, 60, 4), -1);
        long before = x.digest();
        due("21: sift(1)", x.sift(1, 0, -1), -10);
        due("21: sift(-1)", x.sift(-1, 0, -1), -10);
        due("21: t 61", x.sift(0, 61, -1), -10);
        due("21: t -1", x.sift(0, -1, -1), -10);
        due("21: i -2", x.sift(0, 0, -2), -10);
        due("21: status", x.status(0) * 10 + x.status(1), 50);
        due("21: nothing changes", x.digest(), before);
        x.muster(4);
        x.man(1, 1, 1, 1, 1, 1);
        due("21: by daylight that is there", x.sift(0, 33, -1), 1);
        due("21: a shout", x.sift(0, 33, 0), 2);
        due("21: too dark for two shouts", x.sift(0, 45, -1), -1);
        x.muster(0);
        x.man(0, 0, 0, 0, 1, 0);
        due("21: in the dark", x.sift(0, 55, -1), 0);
        due("21: veterans at most", x.sift(0, 56, -1), -1);
    }

    /** Rows rise figure by figure, the first test leading; the same test may stand in a row again. */
    private static void siftInOrder() {
        for (int t = 0; t <= 60; t++) {
            RiverChoice x = new RiverChoice();
            x.man(1, 1, 1, 1, 1, 1);
            int size = x.sift(0, t, -1);
            long row = 0;
            for (int i = 0; i < size; i++) {
                row = 3 * row + x.sift(0, t, i);
            }
            int want = -1;
            for (int code = 0; size >= 0 && code < Math.pow(3, size) && want < 0; code++) {
                int digits = code;
                int[] tests = new int[size];
                for (int i = size - 1; i >= 0; i--) {
                    tests[i] = digits % 3;
                    digits /= 3;
                }
                int trust = x.trust(0);
                for (int test : tests) {
                    trust = x.test(0, test, true);
                }
                want = trust >= t ? code : -1;
                for (int i = 0; i < size; i++) {
                    x.undo();
                }
            }
            due("21: the row for " + t, size < 0 ? -1 : row, want);
        }
    }

    private static void runs() {
        RiverChoice x = six();
        due("22: none knows", x.runs(0), 62);
        due("22: from the last", x.runs(5), 0);
        due("22: from 3", x.runs(3), 48);
        x.word(3);
        x.word(1);
        due("22: from one who knows", x.runs(3), 56);
        due("22: not those ahead of him", x.runs(2), 56);
        due("22: from 1", x.runs(1), 62);
        due("22: who know stays", x.count(3), 2);
        due("22: runs(6)", x.runs(6), -2);
        due("22: runs(-1)", x.runs(-1), -2);
        due("22: status", x.status(0), 2);
        x.muster(0);
        x.man(1, 0, 0, 0, 0, 0);
        x.man(1, 0, 0, 0, 0, 0);
        due("22: without daylight too", x.runs(0), 2);
    }

    private static void home() {
        RiverChoice x = six();
        due("23: no brothers", x.home(120), 0);
        x.pair(0, 2);
        x.pair(2, 4);
        x.pair(4, 1);
        due("23: home(40)", x.home(40), 0);
        due("23: home(41)", x.home(41), 1);
        due("23: home(65)", x.home(65), 1);
        due("23: home(66)", x.home(66), 4);
        due("23: home(105)", x.home(105), 4);
        due("23: home(106)", x.home(106), 6);
        due("23: home(0)", x.home(0), 0);
        due("23: home(121)", x.home(121), -2);
        due("23: home(-1)", x.home(-1), -2);
        due("23: status", x.status(0), 2);
        due("23: none are sent", x.count(0), 6);
        x.muster(40);
        x.man(1, 0, 0, 0, 0, 0);
        x.man(1, 0, 0, 0, 0, 0);
        x.pair(0, 1);
        due("23: side by side, home(60)", x.home(60), 0);
        due("23: side by side, home(61)", x.home(61), 1);
        due("23: no men", new RiverChoice().home(120), 0);
    }

    private static void spy() {
        RiverChoice x = new RiverChoice();
        x.man(1, 1, 1, 1, 1, 1);
        x.man(0, 0, 0, 0, 0, 4);
        x.man(0, 0, 0, 0, 3, 3);
        x.man(2, 0, 0, 0, 0, 0);
        due("24: all kinds", x.spy(0), 5);
        due("24: a spy", x.spy(1), 60);
        due("24: half a spy", x.spy(2), 28);
        due("24: no spy", x.spy(3), 0);
        due("24: weights stay", x.weight(2, 5), 3);
        due("24: spy(4)", x.spy(4), -2);
        due("24: spy(-1)", x.spy(-1), -2);
        due("24: status", x.status(0), 2);
    }
}
