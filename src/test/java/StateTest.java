/** Promises 30 to 35: what there is. */
public final class StateTest {
    private static final Due DUE = new Due();

    public static void main(String[] args) {
        part();
        image();
        from();
        status();
        count();
        digest();
        DUE.end();
    }

    private static void due(String call, long got, long want) {
        DUE.due(call, got, want);
    }

    private static RiverChoice two() {
        RiverChoice x = new RiverChoice();
        x.man(1, 2, 3, 4, 5, 6);
        x.man(6, 0, 0, 0, 0, 1);
        x.worn(0, 9);
        x.pair(1, 0);
        x.word(0);
        return x;
    }

    private static void part() {
        RiverChoice x = two();
        due("30: above at first", x.part(0), 0);
        due("30: below at first", x.part(1), 1);
        x.hold(3, 1);
        // 3600 less 39 times 35, of 3600
        due("30: trust(0)", x.trust(0), 21);
        due("30: trust(1)", x.trust(1), 25);
        due("30: above", x.part(0), 149);
        due("30: below", x.part(1), 240);
        due("30: part(2)", x.part(2), -2);
        due("30: part(-1)", x.part(-1), -2);
        due("30: status", x.status(0), 2);
        x.man(1, 1, 1, 1, 1, 1);
        due("30: it stays", x.part(1), 240);
    }

    private static void image() {
        RiverChoice x = two();
        x.test(0, 1, true);
        long before = x.digest();
        due("31: image(0)", x.image(0), 1);
        due("31: image(1)", x.image(1), 1);
        due("31: image(2)", x.image(2), -2);
        due("31: image(-1)", x.image(-1), -2);
        due("31: nothing changes", x.digest(), before);
        due("31: status", x.status(0), 2);
        x.muster(7);
        due("31: image(0) anew", x.image(0), 1);
        x.from(1);
        due("31: the other is its own", x.digest(), before);
        x.from(0);
        due("31: the one anew", x.count(1), 7);
    }

    private static void from() {
        RiverChoice x = two();
        due("32: none was kept", x.from(1), -3);
        due("32: BAD", x.from(2), -2);
        due("32: BAD", x.from(-1), -2);
        x.test(0, 1, true);
        x.test(1, 0, false);
        x.image(1);
        long before = x.digest();
        due("32: the other was not kept", x.from(0), -3);
        x.undo();
        x.test(1, 2, true);
        x.man(1, 1, 1, 1, 1, 1);
        x.worn(0, 1);
        x.pair(0, 2);
        x.word(2);
        x.test(2, 2, true);
        due("32: from(1)", x.from(1), 1);
        due("32: all as it was", x.digest(), before);
        due("32: a test may be undone", x.undo(), 1);
        due("32: daylight ahead of it", x.count(1), 35);
        due("32: who knew ahead of it", x.count(3), 1);
        due("32: another may be undone", x.undo(), 1);
        due("32: daylight ahead of that", x.count(1), 40);
        due("32: no more of them", x.undo(), -3);
        due("32: as ahead of both", x.weight(0, 0), 1);
        due("32: from(1) again", x.from(1), 1);
        due("32: all as it was, again", x.digest(), before);
        x.test(0, 0, true);
        due("32: the image is not worked on", x.from(1), 1);
        due("32: all as it was, once more", x.digest(), before);
        x.type('a');
        x.hold(1, 1);
        due("32: trust(0)", x.trust(0), 46);
        x.from(1);
        due("32: the text is none of it", x.count(5), 1);
        due("32: the fraction is none of it", x.part(0) * 100 + x.part(1), 2330);
        due("32: status is none of it", x.status(0) * 10 + x.status(1), 23);
    }

    private static void status() {
        RiverChoice x = new RiverChoice();
        x.muster(-1);
        x.undo();
        x.undo();
        for (int i = 0; i < 9; i++) {
            x.man(1, 0, 0, 0, 0, 0);
        }
        due("33: BAD", x.status(0), 1);
        due("33: NO", x.status(1), 2);
        due("33: FULL", x.status(2), 3);
        due("33: status(3)", x.status(3), -1);
        due("33: status(-1)", x.status(-1), -1);
        due("33: both are BAD", x.status(0), 3);
        x.keep(7, 0);
        x.worth(0, 0, 9, 0);
        x.best(9, 0);
        x.sift(0, 99, 0);
        x.looks(99, true, 0);
        x.next(99);
        due("33: other answers that are BAD", x.status(0), 9);
        x.muster(0);
        x.man(1, 0, 0, 0, 0, 0);
        x.worth(0, 0, 1, 0);
        due("33: another that is NO", x.status(1), 3);
        x.keep(2, 0);
        x.best(0, 0);
        x.sift(0, 60, 0);
        x.sift(0, 0, 0);
        x.looks(1, false, 1);
        x.next(0);
        x.read();
        Due.type(x, "muster 5;word 0;");
        x.read();
        due("33: those that are told as none of them", x.status(0) + x.status(1) + x.status(2), 15);
    }

    private static void count() {
        RiverChoice x = two();
        x.test(0, 2, true);
        x.test(0, 2, true);
        x.type('m');
        int[] want = {2, 34, 1, 1, 2, 1};
        for (int what = 0; what < 6; what++) {
            due("34: count(" + what + ")", x.count(what), want[what]);
        }
        x.test(0, 0, true);
        due("34: word reached another", x.count(3), 2);
        due("34: count(6)", x.count(6), -2);
        due("34: count(-1)", x.count(-1), -2);
        due("34: status", x.status(0), 2);
    }

    private static long rolled(long... values) {
        long h = 971;
        for (long v : values) {
            h = 31 * h + v;
        }
        return h;
    }

    private static void digest() {
        due("35: of a new object", new RiverChoice().digest(), rolled(0, 40, 0, 0, 0, 0, 0, 1));
        RiverChoice x = two();
        x.man(0, 0, 0, 0, 0, 9);
        x.worn(2, 31);
        x.type(';');
        x.hold(2, 1);
        due("35: of three men", x.digest(), rolled(3, 40, 1, 1, 0, 1,
            1, 2, 3, 4, 5, 6, 9, 2, 1,
            6, 0, 0, 0, 0, 1, 0, 1, 0,
            0, 0, 0, 0, 0, 9, 31, 0, 0,
            5, 12));
        x.test(2, 0, true);
        due("35: behind a test", x.digest(), rolled(3, 38, 1, 2, 1, 1,
            1, 2, 3, 4, 5, 6, 9, 2, 1,
            6, 0, 0, 0, 0, 1, 0, 1, 1,
            0, 0, 0, 0, 0, 1, 31, 0, 0,
            5, 12));
    }
}
