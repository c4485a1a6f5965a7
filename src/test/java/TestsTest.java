/** Promises 10 to 16: tests, undone, and what men are weighed by. */
public final class TestsTest {
    private static final Due DUE = new Due();

    public static void main(String[] args) {
        test();
        brothersAndWord();
        partedAndHalved();
        undo();
        weight();
        cases();
        trust();
        shows();
        of();
        DUE.end();
    }

    private static void due(String call, long got, long want) {
        DUE.due(call, got, want);
    }

    private static void weights(String call, RiverChoice x, int man, long... want) {
        for (int kind = 0; kind < 6; kind++) {
            due(call + ": weight(" + man + ", " + kind + ")", x.weight(man, kind), want[kind]);
        }
    }

    private static void test() {
        RiverChoice x = new RiverChoice();
        x.man(1, 1, 1, 1, 1, 1);
        x.man(1, 0, 1, 0, 0, 0);
        due("10: river shown", x.test(0, 0, true), 31);
        weights("10: river shown", x, 0, 6, 9, 3, 3, 4, 3);
        due("10: costs 2", x.count(1), 38);
        due("10: night not shown", x.test(1, 1, false), 18);
        weights("10: night not shown", x, 1, 7, 0, 10, 0, 0, 0);
        due("10: costs 5", x.count(1), 33);
        due("10: shout not shown", x.test(1, 2, false), 16);
        weights("10: shout not shown", x, 1, 28, 0, 55, 0, 0, 0);
        due("10: costs 3", x.count(1), 30);
        due("10: may be undone", x.count(4), 3);
        due("10: test(2, 0)", x.test(2, 0, true), -2);
        due("10: test(-1, 0)", x.test(-1, 0, true), -2);
        due("10: test(0, 3)", x.test(0, 3, true), -2);
        due("10: test(0, -1)", x.test(0, -1, true), -2);
        due("10: refused are none", x.count(4), 3);
        x.muster(4);
        x.man(0, 1, 0, 0, 0, 0);
        due("10: too dark for the night", x.test(0, 1, true), -3);
        due("10: BAD comes first", x.test(1, 1, true), -2);
        due("10: not for a shout", x.test(0, 2, true), 50);
        due("10: nor is 1 enough for the river", x.test(0, 0, true), -3);
        due("10: status", x.status(0) * 10 + x.status(1), 52);
        x.muster(2);
        x.man(0, 1, 0, 0, 0, 0);
        due("10: just enough", x.test(0, 0, true), 50);
        due("10: dark", x.count(1), 0);
    }

    private static void brothersAndWord() {
        RiverChoice x = new RiverChoice();
        for (int i = 0; i < 5; i++) {
            x.man(1, 0, 0, 1, 0, 0);
        }
        x.pair(1, 4);
        x.pair(1, 2);
        x.pair(3, 4);
        x.word(2);
        x.test(1, 0, true);
        weights("10: he himself, without word", x, 1, 2, 0, 0, 1, 0, 0);
        weights("10: a brother by his own word", x, 2, 6, 0, 0, 11, 0, 0);
        weights("10: a brother further off", x, 4, 2, 0, 0, 1, 0, 0);
        weights("10: a brother's brother is none", x, 3, 1, 0, 0, 1, 0, 0);
        weights("10: one beside him is none", x, 0, 1, 0, 0, 1, 0, 0);
        due("10: word reaches 0", x.of(0, 2), 1);
        due("10: not the man", x.of(1, 2), 0);
        due("10: word stays with 2", x.of(2, 2), 1);
        due("10: not 3", x.of(3, 2), 0);
        due("10: not 4", x.of(4, 2), 0);
        x.test(4, 1, true);
        due("10: no word by night", x.count(3), 2);
        weights("10: brothers by night too", x, 3, 5, 0, 0, 2, 0, 0);
        x.test(4, 2, false);
        due("10: no word at a shout", x.count(3), 2);
        x.test(4, 0, false);
        due("10: word at the river, shown or not", x.of(3, 2), 1);
        RiverChoice y = new RiverChoice();
        y.man(1, 0, 0, 1, 0, 0);
        y.man(1, 0, 0, 1, 0, 0);
        y.pair(0, 1);
        y.test(0, 0, true);
        weights("10: word comes behind the test", y, 1, 2, 0, 0, 1, 0, 0);
        due("10: and then he knows", y.of(1, 2), 1);
    }

    private static void partedAndHalved() {
        RiverChoice x = new RiverChoice();
        x.muster(99);
        x.man(4, 0, 0, 0, 0, 0);
        weights("10: as told at first", x, 0, 4, 0, 0, 0, 0, 0);
        x.test(0, 0, true);
        weights("10: parted", x, 0, 1, 0, 0, 0, 0, 0);
        x.man(0, 0, 0, 0, 0, 9);
        x.test(1, 2, true);
        weights("10: a spy alone", x, 1, 0, 0, 0, 0, 0, 1);
        x.muster(99);
        x.man(9, 0, 9, 0, 7, 0);
        for (int i = 0; i < 5; i++) {
            x.test(0, 1, true);
        }
        // 9 * 5^5, 9 * 2^5, 7 * 10^5: no more is common than 1
        weights("10: five nights", x, 0, 28125, 0, 288, 0, 700000, 0);
        x.test(0, 1, true);
        // 140625, 576, 7000000, halved three times, each time cut
        weights("10: six nights", x, 0, 17578, 0, 72, 0, 875000, 0);
        x.test(0, 1, true);
        // 43945, 72, 4375000 once parted by 2, halved three times
        weights("10: seven nights", x, 0, 5493, 0, 9, 0, 546875, 0);
        x.muster(99);
        x.man(1, 0, 1, 0, 0, 0);
        for (int i = 0; i < 5; i++) {
            x.test(0, 1, false);
        }
        weights("10: 7 and 10 to the fifth", x, 0, 16807, 0, 100000, 0, 0, 0);
        x.test(0, 1, false);
        // 117649 and 1000000, which is one too many
        weights("10: 7 and 10 to the sixth, halved", x, 0, 58824, 0, 500000, 0, 0, 0);
    }

    private static void undo() {
        RiverChoice x = new RiverChoice();
        x.muster(99);
        x.man(1, 1, 1, 1, 1, 1);
        x.man(1, 2, 3, 4, 5, 6);
        x.man(6, 0, 0, 0, 0, 1);
        x.pair(0, 2);
        due("11: none at first", x.undo(), -3);
        long[] digests = new long[9];
        for (int i = 0; i < 9; i++) {
            x.image(0);
            digests[i] = weighed(x);
            x.test(i % 3, i % 2 * 2, i % 2 == 0);
        }
        due("11: eight at most", x.count(4), 8);
        for (int i = 8; i > 0; i--) {
            due("11: undo of test " + i, x.undo(), 1);
            due("11: as ahead of test " + i, weighed(x), digests[i]);
        }
        due("11: the ninth is gone", x.undo(), -3);
        due("11: daylight", x.count(1), 97);
        due("11: status", x.status(1), 2);
        x.test(1, 1, true);
        x.hold(3, 1);
        x.trust(0);
        x.type('a');
        x.image(1);
        due("11: other calls leave it", x.undo(), 1);
        x.test(1, 1, true);
        due("11: word(1) is refused", x.word(1), -3);
        due("11: what is refused leaves it", x.undo(), 1);
        x.test(1, 1, true);
        x.word(0);
        due("11: what is told leaves none", x.undo(), -3);
    }

    /** All that undo brings back. */
    private static long weighed(RiverChoice x) {
        long h = x.count(1);
        for (int man = 0; man < 3; man++) {
            for (int kind = 0; kind < 6; kind++) {
                h = 1000003 * h + x.weight(man, kind);
            }
            h = 2 * h + x.of(man, 2);
        }
        return h;
    }

    private static void weight() {
        RiverChoice x = new RiverChoice();
        x.man(0, 9, 0, 3, 0, 1);
        weights("12", x, 0, 0, 9, 0, 3, 0, 1);
        due("12: weight(1, 0)", x.weight(1, 0), -2);
        due("12: weight(-1, 0)", x.weight(-1, 0), -2);
        due("12: weight(0, 6)", x.weight(0, 6), -2);
        due("12: weight(0, -1)", x.weight(0, -1), -2);
        due("12: status", x.status(0), 4);
    }

    private static void cases() {
        RiverChoice x = new RiverChoice();
        int[][] blind = {{6, 5, 4, 6}, {9, 8, 7, 10}, {3, 2, 1, 2}, {3, 2, 1, 1}, {4, 10, 9, 11}, {3, 2, 1, 0}};
        for (int kind = 0; kind < 6; kind++) {
            for (int what = 0; what < 4; what++) {
                String call = "13: cases(" + kind + ", " + what + ")";
                due(call, x.cases(kind, what, false), blind[kind][what]);
                boolean showy = what == 0 && (kind == 3 || kind == 5);
                due(call + " by word", x.cases(kind, what, true), showy ? 11 : blind[kind][what]);
            }
        }
        due("13: cases(6, 0)", x.cases(6, 0, true), -2);
        due("13: cases(-1, 0)", x.cases(-1, 0, true), -2);
        due("13: cases(0, 4)", x.cases(0, 4, false), -2);
        due("13: cases(0, -1)", x.cases(0, -1, false), -2);
        due("13: status", x.status(0), 4);
    }

    private static void trust() {
        RiverChoice x = new RiverChoice();
        int[] alone = {30, 50, 10, 5, 55, 0};
        for (int kind = 0; kind < 6; kind++) {
            x.man(kind == 0 ? 2 : 0, kind == 1 ? 3 : 0, kind == 2 ? 4 : 0, kind == 3 ? 5 : 0, kind == 4 ? 6 : 0, kind == 5 ? 7 : 0);
            due("14: trust of kind " + kind, x.trust(kind), alone[kind]);
        }
        due("14: trust(6)", x.trust(6), -2);
        due("14: trust(-1)", x.trust(-1), -2);
        due("14: status", x.status(0), 2);
        x.muster(0);
        x.man(1, 1, 1, 1, 1, 1);
        x.man(0, 0, 5, 5, 0, 1);
        due("14: all kinds", x.trust(0), 25);
        due("14: 75 by 11, cut", x.trust(1), 6);
    }

    private static void shows() {
        RiverChoice x = new RiverChoice();
        x.man(1, 1, 1, 1, 1, 1);
        x.man(0, 0, 0, 1, 0, 1);
        due("15: river", x.shows(0, 0), 23);
        due("15: night", x.shows(0, 1), 24);
        due("15: shout", x.shows(0, 2), 19);
        due("15: river of those who make a show", x.shows(1, 0), 15);
        x.word(0);
        x.word(1);
        due("15: by word", x.shows(1, 0), 55);
        due("15: by word, all kinds", x.shows(0, 0), 36);
        due("15: night as ever", x.shows(1, 1), 10);
        due("15: shows(2, 0)", x.shows(2, 0), -2);
        due("15: shows(-1, 0)", x.shows(-1, 0), -2);
        due("15: shows(0, 3)", x.shows(0, 3), -2);
        due("15: shows(0, -1)", x.shows(0, -1), -2);
        due("15: status", x.status(0), 4);
    }

    private static void of() {
        RiverChoice x = new RiverChoice();
        x.man(0, 3, 1, 3, 0, 0);
        x.man(0, 0, 0, 0, 0, 1);
        x.man(1, 2, 3, 4, 5, 4);
        x.man(2, 2, 0, 0, 0, 0);
        x.worn(0, 17);
        x.pair(0, 2);
        x.pair(0, 1);
        x.word(2);
        due("16: signs", x.of(0, 0), 17);
        due("16: brothers", x.of(0, 1), 6);
        due("16: brothers of 2", x.of(2, 1), 1);
        due("16: does not know", x.of(0, 2), 0);
        due("16: knows", x.of(2, 2), 1);
        due("16: likeliest, the first", x.of(0, 3), 1);
        due("16: likeliest, a spy", x.of(1, 3), 5);
        due("16: likeliest, a veteran", x.of(2, 3), 4);
        due("16: likeliest, plain", x.of(3, 3), 0);
        due("16: of(4, 0)", x.of(4, 0), -2);
        due("16: of(-1, 0)", x.of(-1, 0), -2);
        due("16: of(0, 4)", x.of(0, 4), -2);
        due("16: of(0, -1)", x.of(0, -1), -2);
        due("16: status", x.status(0), 4);
    }
}
