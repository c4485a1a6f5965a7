/** Promises 25 to 29: looks, boasters, the second river and men drawn. */
public final class LookTest {
    private static final Due DUE = new Due();

    public static void main(String[] args) {
        looks();
        next();
        boast();
        boastByTrust();
        again();
        drawn();
        DUE.end();
    }

    private static void due(String call, long got, long want) {
        DUE.due(call, got, want);
    }

    private static RiverChoice wearing(int... signs) {
        RiverChoice x = new RiverChoice();
        for (int man = 0; man < signs.length; man++) {
            x.man(1, 0, 0, 0, 0, 0);
            x.worn(man, signs[man]);
        }
        return x;
    }

    private static void looks() {
        RiverChoice none = new RiverChoice();
        due("25: no men, all", none.looks(0, true, 0), 32);
        due("25: no men, all, in common", none.looks(0, true, 1), 0);
        due("25: no men, any", none.looks(0, false, 0), 32);
        due("25: no such man", none.looks(1, true, 0), -10);
        RiverChoice x = wearing(3, 7, 12);
        due("25: all of 0 and 1", x.looks(3, true, 0), 3);
        due("25: in common none", x.looks(3, true, 1), 0);
        due("25: all of 1", x.looks(2, true, 0), 3);
        due("25: all of 1 in common", x.looks(2, true, 1), 4);
        due("25: all of 2", x.looks(4, true, 0), 2);
        due("25: all of 2 in common", x.looks(4, true, 1), 8);
        due("25: all of 0 and 2", x.looks(5, true, 0), 0);
        due("25: all of 0 and 2: none", x.looks(5, true, 1), -1);
        due("25: all three wear no sign", x.looks(7, true, 0), 1);
        due("25: none of them", x.looks(0, true, 0), 32 - 3 - 1 - 3 - 1 - 2);
        due("25: any of 0 and 1", x.looks(3, false, 0), 6);
        due("25: any of 2", x.looks(4, false, 1), 8);
        due("25: any of none", x.looks(0, false, 0), 2);
        due("25: any of none in common", x.looks(0, false, 1), 0);
        due("25: any of 0 and 2: none", x.looks(5, false, 1), -1);
        due("25: looks(8)", x.looks(8, true, 0), -10);
        due("25: looks(-1)", x.looks(-1, true, 0), -10);
        due("25: what 2", x.looks(0, true, 2), -10);
        due("25: what -1", x.looks(0, true, -1), -10);
        due("25: status", x.status(0) * 10 + x.status(1), 40);
    }

    private static void next() {
        due("26: no men", new RiverChoice().next(0), -1);
        RiverChoice x = wearing(31, 5, 0);
        due("26: 0 is told by the others", x.next(1), 1);
        due("26: next(3)", x.next(3), 1);
        due("26: next(7): all wear nothing of it", x.next(7), 2);
        RiverChoice y = wearing(1, 1);
        due("26: alike men tell of one another", y.next(3), -1);
        due("26: alike men, none kept", y.next(0), -1);
        RiverChoice z = wearing(1, 2);
        due("26: next(0)", z.next(0), 0);
        due("26: next(1): 0 may be in or out", z.next(1), 0);
        RiverChoice w = wearing(0, 31, 1);
        due("26: no set fits those others", w.next(1), -1);
        due("26: next(8)", w.next(8), -10);
        due("26: next(-1)", w.next(-1), -10);
        due("26: status", w.status(0), 2);
    }

    private static void boast() {
        RiverChoice x = new RiverChoice();
        x.man(1, 0, 0, 0, 0, 0);
        x.man(0, 0, 0, 0, 0, 1);
        x.man(0, 1, 0, 0, 0, 0);
        due("27: neither knows", x.boast(0, 1, 0), -3);
        x.word(0);
        due("27: one does not know", x.boast(0, 1, 0), -3);
        due("27: the other does not know", x.boast(1, 0, 0), -3);
        x.word(1);
        x.word(2);
        due("27: both know", x.boast(0, 1, 0), 2);
        due("27: the first", x.boast(0, 1, 1), 1);
        due("27: the other way about", x.boast(1, 0, 0), 2);
        due("27: the first that way", x.boast(1, 0, 1), 1);
        due("27: alike", x.boast(1, 1, 0), -2);
        due("27: boast(0, 3)", x.boast(0, 3, 0), -2);
        due("27: boast(-1, 0)", x.boast(-1, 0, 0), -2);
        due("27: what 2", x.boast(0, 1, 2), -2);
        due("27: what -1", x.boast(0, 1, -1), -2);
        due("27: status", x.status(0) * 10 + x.status(1), 53);
    }

    /** The same once more, by a table of who gets what. */
    private static void boastByTrust() {
        int[][] men = {{0, 0, 0, 0, 0, 1}, {0, 0, 1, 0, 0, 0}, {6, 0, 0, 0, 0, 3}, {5, 0, 2, 0, 0, 2}, {1, 0, 0, 0, 0, 0}, {0, 0, 0, 0, 1, 0}};
        int[] lapping = {2, 2, 2, 2, 1, 1};
        int[] kneeling = {3, 3, 1, 3, 1, 1};
        RiverChoice x = new RiverChoice();
        for (int man = 0; man < 6; man++) {
            x.man(men[man][0], men[man][1], men[man][2], men[man][3], men[man][4], men[man][5]);
            x.word(man);
        }
        due("27: trust of 20", x.trust(2), 20);
        due("27: trust of 19", x.trust(3), 18);
        for (int a = 0; a < 6; a++) {
            for (int b = 0; b < 6; b++) {
                if (a == b) {
                    continue;
                }
                boolean one = kneeling[a] >= lapping[a];
                boolean other = kneeling[b] >= lapping[b];
                boolean both = lapping[a] >= kneeling[a] && lapping[b] >= kneeling[b];
                int pairs = (one ? 1 : 0) + (other ? 1 : 0) + (both ? 1 : 0);
                due("27: boast(" + a + ", " + b + ", 0)", x.boast(a, b, 0), pairs);
                due("27: boast(" + a + ", " + b + ", 1)", x.boast(a, b, 1), one ? 1 : other ? 10 : 11);
            }
        }
    }

    private static void again() {
        RiverChoice x = new RiverChoice();
        x.man(0, 0, 0, 0, 0, 1);
        x.man(0, 0, 5, 5, 0, 1);
        x.man(1, 1, 1, 1, 1, 1);
        x.man(1, 0, 0, 0, 0, 0);
        due("28: a spy", x.again(0), 55);
        // 15, 15, 3 become 5, 5, 1: 15 + 55 + 11 of 132
        due("28: without word", x.again(1), 36);
        x.word(1);
        // 15, 55, 11: 45 + 605 + 121 of 972
        due("28: with word", x.again(1), 47);
        due("28: all kinds", x.again(2), 37);
        due("28: plain", x.again(3), 30);
        due("28: weights stay", x.weight(1, 2), 5);
        due("28: word stays", x.of(0, 2), 0);
        due("28: daylight stays", x.count(1), 40);
        due("28: again(4)", x.again(4), -2);
        due("28: again(-1)", x.again(-1), -2);
        due("28: status", x.status(0), 2);
        x.muster(0);
        x.man(0, 0, 0, 1, 0, 0);
        due("28: without daylight too", x.again(0), 55);
    }

    private static void drawn() {
        RiverChoice x = new RiverChoice();
        x.man(0, 0, 0, 0, 1, 0);
        x.man(1, 0, 0, 0, 0, 0);
        x.man(0, 0, 0, 0, 0, 1);
        int[][] asked = {{7, 30, 7}, {7, 1, 0}, {3, 30, 999999}, {5, 12, 4711}, {2, 30, 1}, {1, 30, 123456}, {4, 30, 5}, {0, 30, 5}, {7, 0, 5}};
        int[] trusts = {55, 30, 0};
        for (int[] a : asked) {
            long seed = a[2];
            int held = 0;
            for (int day = 0; day < a[1]; day++) {
                for (int man = 0; man < 3; man++) {
                    if ((a[0] >> man & 1) == 1) {
                        seed = (seed * 1103515245L + 12345L) & 0x7fffffffL;
                        held += (seed >> 16) % 60 < trusts[man] ? 1 : 0;
                    }
                }
            }
            due("29: drawn(" + a[0] + ", " + a[1] + ", " + a[2] + ")", x.drawn(a[0], a[1], a[2]), held);
        }
        // X is 12345 behind 0: by 65536 that is 0, less than 30
        due("29: drawn(2, 1, 0)", x.drawn(2, 1, 0), 1);
        due("29: drawn(4, 1, 0)", x.drawn(4, 1, 0), 0);
        due("29: drawn(8, 1, 1)", x.drawn(8, 1, 1), -2);
        due("29: drawn(-1, 1, 1)", x.drawn(-1, 1, 1), -2);
        due("29: n 31", x.drawn(1, 31, 1), -2);
        due("29: n -1", x.drawn(1, -1, 1), -2);
        due("29: seed 1000000", x.drawn(1, 1, 1000000), -2);
        due("29: seed -1", x.drawn(1, 1, -1), -2);
        due("29: status", x.status(0), 6);
    }
}
