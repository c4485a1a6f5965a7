/** Promises 1 to 9: a new object, and all that tells of a muster. */
public final class MusterTest {
    private static final Due DUE = new Due();

    public static void main(String[] args) {
        newObject();
        muster();
        man();
        worn();
        pair();
        word();
        type();
        clear();
        read();
        readFaults();
        readRefusals();
        DUE.end();
    }

    private static void due(String call, long got, long want) {
        DUE.due(call, got, want);
    }

    /** Three men of one kind each: brave, timid, boaster. */
    private static RiverChoice three() {
        RiverChoice x = new RiverChoice();
        x.man(0, 1, 0, 0, 0, 0);
        x.man(0, 0, 1, 0, 0, 0);
        x.man(0, 0, 0, 1, 0, 0);
        return x;
    }

    private static void newObject() {
        RiverChoice x = new RiverChoice();
        due("1: NONE", RiverChoice.NONE, -1);
        due("1: BAD", RiverChoice.BAD, -2);
        due("1: NO", RiverChoice.NO, -3);
        due("1: FULL", RiverChoice.FULL, -4);
        int[] counts = {0, 40, 0, 0, 0, 0};
        for (int what = 0; what < 6; what++) {
            due("1: count(" + what + ")", x.count(what), counts[what]);
        }
        due("1: above", x.part(0), 0);
        due("1: below", x.part(1), 1);
        for (int what = 0; what < 3; what++) {
            due("1: status(" + what + ")", x.status(what), 0);
        }
        due("1: trust(0)", x.trust(0), -2);
        due("1: from(0)", x.from(0), -3);
        due("1: from(1)", x.from(1), -3);
        due("1: undo()", x.undo(), -3);
        due("1: clear()", x.clear(), 0);
    }

    private static void muster() {
        RiverChoice x = three();
        x.worn(0, 5);
        x.pair(0, 1);
        x.word(1);
        x.test(0, 0, true);
        x.hold(1, 1);
        x.image(0);
        x.type('a');
        due("2: muster(99)", x.muster(99), 3);
        due("2: men", x.count(0), 0);
        due("2: daylight", x.count(1), 99);
        due("2: pairs", x.count(2), 0);
        due("2: who know", x.count(3), 0);
        due("2: undo", x.count(4), 0);
        due("2: the text is not told by a muster", x.count(5), 1);
        due("2: the fraction stays", x.part(1), 6);
        due("2: muster(0)", x.muster(0), 0);
        due("2: daylight 0", x.count(1), 0);
        due("2: man", x.man(1, 0, 0, 0, 0, 0), 0);
        due("2: no signs any more", x.of(0, 0), 0);
        due("2: no brothers any more", x.of(0, 1), 0);
        due("2: knows no more", x.of(0, 2), 0);
        due("2: images stay", x.from(0), 1);
        due("2: men of the image", x.count(0), 3);
        long before = x.digest();
        due("2: muster(-1)", x.muster(-1), -2);
        due("2: muster(100)", x.muster(100), -2);
        due("2: nothing changed", x.digest(), before);
        due("2: both are BAD", x.status(0), 2);
    }

    private static void man() {
        RiverChoice x = new RiverChoice();
        due("3: man 0", x.man(9, 8, 7, 6, 5, 4), 0);
        for (int kind = 0; kind < 6; kind++) {
            due("3: weight of " + kind, x.weight(0, kind), 9 - kind);
        }
        int[][] wrong = {{0, 0, 0, 0, 0, 0}, {10, 0, 0, 0, 0, 0}, {1, -1, 0, 0, 0, 0}, {1, 0, 10, 0, 0, 0},
            {1, 0, 0, -1, 0, 0}, {1, 0, 0, 0, 10, 0}, {1, 0, 0, 0, 0, -1}};
        for (int[] w : wrong) {
            due("3: man of wrong weights", x.man(w[0], w[1], w[2], w[3], w[4], w[5]), -2);
        }
        for (int n = 1; n < 6; n++) {
            due("3: man " + n, x.man(0, 0, 0, 0, 0, n), n);
        }
        due("3: a seventh", x.man(1, 1, 1, 1, 1, 1), -4);
        due("3: BAD comes first", x.man(0, 0, 0, 0, 0, 0), -2);
        due("3: men", x.count(0), 6);
        due("3: status BAD", x.status(0), 8);
        due("3: status FULL", x.status(2), 1);
        RiverChoice y = three();
        y.test(0, 0, true);
        y.man(0, 0, 0, 0, 0, 0);
        due("3: a refused man leaves tests to undo", y.count(4), 1);
        y.man(0, 0, 0, 0, 1, 0);
        due("3: a man leaves none to undo", y.undo(), -3);
    }

    private static void worn() {
        RiverChoice x = three();
        due("4: worn(2, 31)", x.worn(2, 31), 0);
        due("4: worn(2, 4)", x.worn(2, 4), 31);
        due("4: worn(2, 0)", x.worn(2, 0), 4);
        x.test(0, 1, true);
        due("4: worn(3, 0)", x.worn(3, 0), -2);
        due("4: worn(-1, 0)", x.worn(-1, 0), -2);
        due("4: worn(0, 32)", x.worn(0, 32), -2);
        due("4: worn(0, -1)", x.worn(0, -1), -2);
        due("4: tests to undo", x.count(4), 1);
        due("4: worn(0, 0)", x.worn(0, 0), 0);
        due("4: none to undo", x.count(4), 0);
        due("4: status", x.status(0), 4);
    }

    private static void pair() {
        RiverChoice x = three();
        x.test(0, 1, true);
        due("5: pair(0, 0)", x.pair(0, 0), -2);
        due("5: pair(0, 3)", x.pair(0, 3), -2);
        due("5: pair(-1, 0)", x.pair(-1, 0), -2);
        due("5: tests to undo", x.count(4), 1);
        due("5: pair(0, 2)", x.pair(0, 2), 1);
        due("5: none to undo", x.count(4), 0);
        due("5: pair(2, 0)", x.pair(2, 0), -3);
        due("5: pair(0, 2)", x.pair(0, 2), -3);
        due("5: pair(2, 1)", x.pair(2, 1), 1);
        due("5: pairs", x.count(2), 2);
        due("5: brothers of 2", x.of(2, 1), 3);
        due("5: brothers of 0", x.of(0, 1), 4);
        due("5: status BAD", x.status(0), 3);
        due("5: status NO", x.status(1), 2);
    }

    private static void word() {
        RiverChoice x = three();
        x.test(0, 1, true);
        due("6: word(3)", x.word(3), -2);
        due("6: word(-1)", x.word(-1), -2);
        due("6: tests to undo", x.count(4), 1);
        due("6: word(2)", x.word(2), 1);
        due("6: none to undo", x.count(4), 0);
        due("6: word(2)", x.word(2), -3);
        due("6: of(2, 2)", x.of(2, 2), 1);
        due("6: of(1, 2)", x.of(1, 2), 0);
        due("6: who know", x.count(3), 1);
        due("6: status", x.status(0) * 10 + x.status(1), 21);
    }

    private static void type() {
        RiverChoice x = three();
        x.test(0, 1, true);
        due("7: type(-1)", x.type(-1), -2);
        due("7: type(128)", x.type(128), -2);
        due("7: type(0)", x.type(0), 1);
        due("7: type(127)", x.type(127), 2);
        due("7: typing leaves tests to undo", x.count(4), 1);
        for (int n = 3; n <= 150; n++) {
            due("7: byte " + n, x.type(' '), n);
        }
        due("7: byte 151", x.type(' '), -4);
        due("7: BAD comes first", x.type(200), -2);
        due("7: bytes", x.count(5), 150);
        due("7: status", x.status(0) * 10 + x.status(2), 31);
    }

    private static void clear() {
        RiverChoice x = three();
        x.test(0, 1, true);
        Due.type(x, "muster 5;");
        due("8: clear()", x.clear(), 9);
        due("8: clear()", x.clear(), 0);
        due("8: bytes", x.count(5), 0);
        due("8: clearing leaves tests to undo", x.count(4), 1);
        due("8: the text is gone", x.read(), -10);
        due("8: typed from the start again", x.type('a'), 1);
    }

    private static void read() {
        RiverChoice x = three();
        x.test(0, 1, true);
        x.hold(1, 1);
        x.image(1);
        String text = "muster 7;man 1 2 3 4 5 06;man9 0 0 0 0 0;worn 0 31;  worn1 5 ; pair 0 1;word 1;";
        due("9: items", Due.read(x, text), 7);
        due("9: men", x.count(0), 2);
        due("9: daylight", x.count(1), 7);
        due("9: pairs", x.count(2), 1);
        due("9: who know", x.count(3), 1);
        due("9: none to undo", x.count(4), 0);
        due("9: the text stays", x.count(5), text.length());
        due("9: the fraction stays", x.part(0) * 10 + x.part(1), 56);
        due("9: weight(0, 5)", x.weight(0, 5), 6);
        due("9: weight(1, 0)", x.weight(1, 0), 9);
        due("9: signs", x.of(0, 0) * 100 + x.of(1, 0), 3105);
        due("9: once more", x.read(), 7);
        due("9: who knows", x.of(0, 2) * 10 + x.of(1, 2), 1);
        due("9: muster alone", Due.read(x, "muster 0;"), 1);
        due("9: no men", x.count(0), 0);
        due("9: no daylight", x.count(1), 0);
        due("9: blanks around", Due.read(x, "  muster  99  ;  "), 1);
        due("9: no blanks", Due.read(x, "muster99;word0;"), -1001);
        due("9: 150 bytes", Due.read(x, "muster 12;" + " ".repeat(140)), 1);
        due("9: images stay", x.from(1), 1);
        due("9: and their tests", x.undo(), 1);
    }

    private static void readFaults() {
        RiverChoice x = three();
        x.test(0, 1, true);
        long before = 0;
        String[] texts = {"", "   ", "man 1 0 0 0 0 0;", ";", "7;", "must 5;", "muster", "muster 5", "muster 5 ", "muster ;",
            "muster 100;", "muster 5 6;", "muster 5;;", "muster 5; muster 5;", "muster 5;word;", "muster 5;word 0",
            "muster 5;pair 0 1 2;", "muster 5;man 1 2 3 4 5;", "muster 5;words 0;", "muster 5;word 000;", "muster 5;Word 0;",
            "muster 5;word #;", "muster 5;word -1;", "muster 5;\n", "muster 5;worn man;", "muster 5;wor", "mustermuster 5;",
            "muster 5word 0;", " \u007fmuster 5;", "muster 5;manz 1", "muster 5;aman 1"};
        int[] faults = {0, 3, 0, 0, 0, 0, 6, 8, 9, 7,
            7, 9, 9, 10, 13, 15,
            18, 22, 9, 14, 9,
            14, 14, 9, 14, 9, 0,
            8, 1, 9, 9};
        due("9: as many faults as texts", faults.length, texts.length);
        for (int i = 0; i < texts.length; i++) {
            Due.type(x, texts[i]);
            before = x.digest();
            due("9: read of '" + texts[i] + "'", x.read(), -10 - faults[i]);
            due("9: nothing changed", x.digest(), before);
        }
        due("9: faults are not refused calls", x.status(0) + x.status(1) + x.status(2), 0);
        due("9: tests to undo", x.undo(), 1);
    }

    private static void readRefusals() {
        RiverChoice x = three();
        x.test(0, 1, true);
        String[] texts = {"muster 5;man 0 0 0 0 0 0;", "muster 5;man 10 0 0 0 0 0;", "muster 5;man 1 0 0 0 0 0;worn 1 0;",
            "muster 5;man 1 0 0 0 0 0;worn 0 32;", "muster 5;word 0;man 1 0 0 0 0 0;", "muster 5;man 1 0 0 0 0 0;word 0;word 0;",
            "muster 5;man 1 0 0 0 0 0;pair 0 0;", "muster5;man1 0 0 0 0 0;man1 0 0 0 0 0;pair 0 1;pair 1 0;",
            "muster5;" + "man1 0 0 0 0 0;".repeat(7) + "word 5;"};
        int[] items = {1, 1, 2, 2, 1, 3, 2, 4, 7};
        for (int i = 0; i < texts.length; i++) {
            Due.type(x, texts[i]);
            long before = x.digest();
            due("9: read of '" + texts[i] + "'", x.read(), -1000 - items[i]);
            due("9: nothing changed", x.digest(), before);
        }
        due("9: a fault behind a refused item comes first", Due.read(x, "muster 5;word 0;word"), -30);
        due("9: items are not refused calls", x.status(0) + x.status(1) + x.status(2), 0);
        due("9: tests to undo", x.undo(), 1);
    }
}
