/** The text and the muster that is read from it: promises 7 to 9 and their terms. */
final class EdgesOfText {
    private static final int BAD = RiverChoice.BAD;
    private static final int FULL = RiverChoice.FULL;

    private static final String[] WORDS = {"muster", "man", "worn", "pair", "word"};
    /** One man, so that items of man 0 stand. */
    private static final String START = "muster 40;man 1 1 1 1 1 1;";

    private final Sentences s;

    EdgesOfText(Sentences s) {
        this.s = s;
    }

    void look() {
        mostBytes();
        itemsEnded();
        musterFirst();
        itemsOfEachSort();
        mostItems();
        words();
        figures();
        blanks();
        faultPlaces();
        wordThatIsNone();
        musterAgain();
        anythingAhead();
        longNumber();
        byteThatBeginsNone();
        endsTooEarly();
        emptyOne();
        toldAnew();
        inTheirOrder();
        refusedItem();
        refusedItemByBounds();
        typeBad();
        typeFull();
        clear();
        readItems();
        readFault();
        readRefused();
    }

    private int read(String text) {
        return Due.read(new RiverChoice(), text);
    }

    private void reads(String text, int want) {
        s.due("read of '" + text + "'", read(text), want);
    }

    private void fault(String text, int place) {
        reads(text, -10 - place);
    }

    // ---- the terms

    private void mostBytes() {
        s.sentence(0, "THE MUSTER is a TEXT (150 bytes at most) of ITEMS");
        for (int length = 149; length <= 151; length++) {
            String blanks = " ".repeat(length - 10);
            reads("muster 40;" + blanks, 1);
            RiverChoice x = new RiverChoice();
            Due.type(x, blanks + "muster 40;");
            s.due("bytes of " + length, x.count(5), Math.min(150, length));
            s.due("read of " + length + " bytes", x.read(), length <= 150 ? 1 : -160);
        }
        fault("x".repeat(150), 0);
        fault("1".repeat(150), 0);
        fault(";".repeat(150), 0);
        fault(" ".repeat(150), 150);
        fault("muster " + "1".repeat(143), 7);
        fault("muster 40;" + "z".repeat(140), 10);
        fault("muster 40;" + " ".repeat(139) + "z", 149);
        fault("muster 40;" + " ".repeat(136) + "word", 150);
    }

    private void itemsEnded() {
        s.sentence(0, "each ended by ;");
        for (String item : new String[] {"man 1 1 1 1 1 1", "worn 0 5", "pair 0 1", "word 0"}) {
            String two = START + "man 1 1 1 1 1 1;";
            fault(two + item, two.length() + item.length());
            reads(two + item + ";", 4);
            fault(two + item + ";;", two.length() + item.length() + 1);
            fault(two + item + " 1;", two.length() + item.length() + 1);
            fault(two + item + " word 0;", two.length() + item.length() + 1);
        }
        fault("muster 40", 9);
        reads("muster 40;", 1);
        fault("muster 40;;", 10);
    }

    private void musterFirst() {
        s.sentence(0, "muster DAYLIGHT (once, first of all)");
        for (int daylight = 0; daylight <= 99; daylight++) {
            RiverChoice x = new RiverChoice();
            s.due("muster " + daylight, Due.read(x, "muster " + daylight + ";"), 1);
            s.due("count(1)", x.count(1), daylight);
        }
        fault("muster 100;", 7);
        fault("muster -1;", 7);
        fault("muster;", 6);
        fault("muster 4 0;", 9);
        fault("word 0;muster 40;", 0);
    }

    private void itemsOfEachSort() {
        s.sentence(0, "man w w w w w w; worn i SIGNS; pair a b; word i.");
        String[] items = {"man 1 2 3 4 5 6", "worn 0 31", "pair 0 1", "word 1"};
        for (String item : items) {
            String[] parts = item.split(" ");
            String two = START + "man 9 9 9 9 9 9;";
            StringBuilder text = new StringBuilder(two).append(parts[0]);
            for (int i = 1; i < parts.length; i++) {
                fault(text + ";", text.length());
                fault(text + " word;", text.length() + 1);
                text.append(' ').append(parts[i]);
            }
            reads(text + ";", 4);
            fault(text + " 0;", text.length() + 1);
        }
        RiverChoice x = new RiverChoice();
        s.due("read()", Due.read(x, START + "man 9 8 7 6 5 4;worn 0 31;worn 1 1;pair 1 0;word 1;"), 7);
        s.due("weight(1, 5)", x.weight(1, 5), 4);
        s.due("signs", x.of(0, 0) * 100 + x.of(1, 0), 3101);
        s.due("brothers", x.of(0, 1) * 10 + x.of(1, 1), 21);
        s.due("who know", x.of(0, 2) * 10 + x.of(1, 2), 1);
    }

    private void mostItems() {
        s.sentence(9, "THE MUSTER is read: how many ITEMS.");
        String text = "muster0;man1 0 0 0 0 0;";
        for (int items = 2; items <= 17; items++) {
            reads(text, items);
            text += "worn0 " + items % 10 + ";";
        }
        s.due("bytes of 18 items", text.length(), 151);
        reads(text, -160);
        reads("muster0;" + "man1 0 0 0 0 0;".repeat(6), 7);
        reads("muster0;" + "man1 0 0 0 0 0;".repeat(6) + "word0;word1;word2;word3;word4;word5;", 13);
        reads("muster0;" + "man1 0 0 0 0 0;".repeat(6) + "pair0 1;pair1 2;pair2 3;pair3 4;pair4 5;", 12);
    }

    private void words() {
        s.sentence(0, "TOKENS: letters a .. z that stand together (a word)");
        fault("mustera 40;", 0);
        fault("muste 40;", 0);
        fault("musterz 40;", 0);
        fault("amuster 40;", 0);
        fault("mus ter 40;", 0);
        fault("Muster 40;", 0);
        fault("mustermuster 40;", 0);
        reads("muster40;", 1);
        reads("muster40;man1 0 0 0 0 0;word0;", 3);
        fault("muster40;manword0;", 9);
        fault("muster40;man1 0 0 0 0 0word0;", 23);
        fault("muster 40word", 9);
        fault("muster`40;", 6);
        fault("muster{40;", 6);
    }

    private void figures() {
        s.sentence(0, "figures that stand together (a number; of more than 2 it is none)");
        for (String number : new String[] {"0", "00", "9", "09", "10", "99"}) {
            RiverChoice x = new RiverChoice();
            s.due("muster " + number, Due.read(x, "muster " + number + ";"), 1);
            s.due("count(1)", x.count(1), Integer.parseInt(number));
        }
        for (String number : new String[] {"000", "001", "040", "100", "999", "0000000001", "2147483648", "4294967297", "18446744073709551617"}) {
            fault("muster " + number + ";", 7);
            fault(START + "word " + number + ";", START.length() + 5);
        }
        fault("muster 4 0;", 9);
        fault("muster 1/;", 8);
        fault("muster 1:;", 8);
        reads("muster 05;man 01 00 00 00 00 09;word 00;", 3);
    }

    private void blanks() {
        s.sentence(0, "; ; blanks (32) between.");
        reads(" muster 40;", 1);
        reads("muster 40; ", 1);
        reads("muster 40 ;", 1);
        reads("muster     40     ;     ", 1);
        reads("  muster40  ;  man1 1  1   1    1     1;word0;", 3);
        for (int other : new int[] {0, 9, 10, 11, 13, 31, 33, 127}) {
            fault("muster" + (char) other + "40;", 6);
            fault((char) other + "muster 40;", 0);
            fault("muster 40;" + (char) other, 10);
            fault("muster 40" + (char) other + ";", 9);
        }
    }

    /** Where a fault can stand in each item: behind its word, behind each of its numbers. */
    private void faultPlaces() {
        s.sentence(0, "FAULT: the place of the first byte of the first TOKEN that can not stand there");
        String[] wrongs = {"muster", "man", "worn", "pair", "word", "words", "a", "z", "7", "07", "123", ";", "#", "-"};
        for (int item = 0; item < WORDS.length; item++) {
            String ahead = item == 0 ? "" : START;
            int needs = new int[] {1, 6, 2, 2, 1}[item];
            for (int numbers = -1; numbers <= needs; numbers++) {
                String prefix = ahead + (numbers < 0 ? "" : WORDS[item] + " 0".repeat(numbers));
                for (String wrong : wrongs) {
                    boolean word = !ahead.isEmpty() && (wrong.equals("man") || wrong.equals("worn") || wrong.equals("pair") || wrong.equals("word"));
                    boolean number = wrong.equals("7") || wrong.equals("07");
                    boolean stands = numbers < 0 ? word || ahead.isEmpty() && wrong.equals("muster")
                        : numbers < needs ? number : wrong.equals(";");
                    if (!stands) {
                        fault(prefix + " " + wrong, prefix.length() + 1);
                        fault(prefix + "   " + wrong + " ;", prefix.length() + 3);
                    } else if (!wrong.equals(";")) {
                        fault(prefix + " " + wrong, prefix.length() + 1 + wrong.length());
                        fault(prefix + " " + wrong + " ?", prefix.length() + 2 + wrong.length());
                    }
                }
            }
        }
    }

    private void wordThatIsNone() {
        s.sentence(0, "(a word that is none");
        for (String word : new String[] {"m", "ma", "mam", "mane", "wor", "wore", "worm", "wordy", "words", "wornn", "pai", "paid", "pairs", "muste", "must", "x", "nuster", "ban", "born", "hair", "lord",
            "wurn", "pear", "ward", "mun", "muzter"}) {
            fault(word, 0);
            fault(word + " 40;", 0);
            fault("muster 40;" + word, 10);
            fault("muster 40; " + word + " 0;", 11);
            fault("muster " + word + ";", 7);
            fault("muster 40 " + word + ";", 10);
        }
    }

    private void musterAgain() {
        s.sentence(0, "muster again");
        fault("muster 40;muster 40;", 10);
        fault("muster 40;  muster", 12);
        fault("muster muster", 7);
        fault("muster 40 muster", 10);
        fault(START + "muster 40;", START.length());
        fault(START + "word 0;muster 40;", START.length() + 7);
        fault("muster 40;" + " ".repeat(130) + "muster 4;", 140);
    }

    private void anythingAhead() {
        s.sentence(0, "anything ahead of it");
        for (String ahead : new String[] {"man 1 0 0 0 0 0;", "worn 0 0;", "pair 0 1;", "word 0;", "7;", "07", "123", ";", "zz", "#", "man", "\0"}) {
            fault(ahead + "muster 40;", 0);
            fault("   " + ahead + " muster 40;", 3);
        }
    }

    private void longNumber() {
        s.sentence(0, "a number of more than 2 figures");
        fault("muster 40;123", 10);
        fault("muster 123", 7);
        fault("muster 40 123;", 10);
        fault("muster 40;man 1 0 0 0 0 000;", 24);
        fault("muster 40;man 1 0 0 0 0 00 ", 27);
        fault("muster 40;word 100", 15);
        fault("muster 40;word 10", 17);
    }

    private void byteThatBeginsNone() {
        s.sentence(0, "a byte that begins none, too)");
        for (int b = 0; b < 128; b++) {
            boolean begins = b >= 'a' && b <= 'z' || b >= '0' && b <= '9' || b == ';' || b == ' ';
            if (!begins) {
                char c = (char) b;
                fault("" + c, 0);
                fault("muster" + c, 6);
                fault("muster 4" + c, 8);
                fault("muster 40;" + c, 10);
                fault("muster 40;man 1" + c, 15);
                fault("muster 40;man 1 0 0 0 0 0 " + c + ";", 26);
            }
        }
        fault("A", 0);
        fault("muster 40;word 0;Z", 17);
    }

    private void endsTooEarly() {
        s.sentence(0, "the TEXT's length, if it ends too early");
        String whole = "muster 40;man 1 2 3 4 5 16;worn 0 31;pair 0 1;word 10;";
        for (int length = 0; length <= whole.length(); length++) {
            String text = whole.substring(0, length);
            boolean cutWord = length > 0 && Character.isLetter(text.charAt(length - 1)) && length < whole.length() && Character.isLetter(whole.charAt(length));
            if (cutWord) {
                continue;
            }
            boolean ended = text.endsWith(";");
            s.due("read of '" + text + "'", read(text), !ended ? -10 - length : length == 10 ? 1 : -1001);
            s.due("read of '" + text + "' and blanks", read(text + "  "), !ended ? -12 - length : length == 10 ? 1 : -1001);
        }
    }

    private void emptyOne() {
        s.sentence(0, "(an empty one, too)");
        fault("", 0);
        fault(" ", 1);
        fault("  ", 2);
        RiverChoice x = Bank.men(2);
        s.changesNothing(x, "read() of nothing", -10, x::read);
        Due.type(x, "muster 40;");
        s.due("clear()", x.clear(), 10);
        s.changesNothing(x, "read() of what was cleared", -10, x::read);
        s.due("count(0)", x.count(0), 2);
    }

    private void toldAnew() {
        s.sentence(0, "A MUSTER without a FAULT is told anew by these alone");
        RiverChoice x = Bank.men(6);
        Bank.pairAll(x, 6);
        Bank.wordToAll(x, 6);
        x.worn(0, 31);
        x.test(0, 0, true);
        s.due("read()", Due.read(x, "muster 40;man 1 1 1 1 1 1;man 1 1 1 1 1 1;"), 3);
        s.due("count(0)", x.count(0), 2);
        s.due("count(1)", x.count(1), 40);
        s.due("count(2)", x.count(2), 0);
        s.due("count(3)", x.count(3), 0);
        s.due("count(4)", x.count(4), 0);
        s.due("the text stays", x.clear(), 42);
        s.due("as if told one by one", x.digest(), Bank.men(2).digest());
        s.due("muster alone", Due.read(x, "muster 0;"), 1);
        s.due("no men", x.count(0), 0);
        s.due("no light", x.count(1), 0);
    }

    private void inTheirOrder() {
        s.sentence(0, "in their order");
        reads("muster 1;word 0;man 1 0 0 0 0 0;", -1001);
        reads("muster 1;man 1 0 0 0 0 0;word 0;", 3);
        reads("muster 1;man 1 0 0 0 0 0;pair 0 1;man 1 0 0 0 0 0;", -1002);
        reads("muster 1;man 1 0 0 0 0 0;man 1 0 0 0 0 0;pair 0 1;", 4);
        RiverChoice x = new RiverChoice();
        s.due("read()", Due.read(x, "muster 1;man 1 0 0 0 0 0;worn 0 7;worn 0 3;"), 4);
        s.due("the last signs stay", x.of(0, 0), 3);
    }

    private void refusedItem() {
        s.sentence(0, "the first ITEM (0 on) that is refused (as its call is): nothing changes.");
        String six = "muster1;" + "man1 0 0 0 0 0;".repeat(6);
        reads(six, 7);
        reads(six + "man1 0 0 0 0 0;", -1007);
        reads(six + "man0 0 0 0 0 0;word9;", -1007);
        reads("muster1;man1 0 0 0 0 0;" + "worn0 0;".repeat(14) + "word1;", -1016);
        reads("muster 1;man 0 0 0 0 0 0;word 9;", -1001);
        RiverChoice x = Bank.men(3);
        x.pair(0, 1);
        x.word(2);
        x.test(2, 1, true);
        x.image(0);
        x.hold(7, 1);
        Due.type(x, "muster 5;man 1 0 0 0 0 0;word 0;word 0;");
        s.changesNothing(x, "read() of word again", -1003, x::read);
        s.changesNothing(x, "and once more", -1003, x::read);
        s.due("undo()", x.undo(), 1);
        s.due("from(0)", x.from(0), 1);
    }

    private void refusedItemByBounds() {
        s.sentence(0, "ITEMS are none)");
        String[] refused = {"man 0 0 0 0 0 0", "man 10 0 0 0 0 0", "man 0 0 0 0 0 10", "man 99 1 1 1 1 1", "worn 2 0", "worn 0 32", "worn 0 99",
            "pair 0 0", "pair 0 2", "pair 2 0", "pair 1 0", "pair 0 1", "word 2", "word 1", "word 99"};
        String[] taken = {"man 1 0 0 0 0 0", "man 9 0 0 0 0 0", "man 0 0 0 0 0 1", "man 9 9 9 9 9 9", "worn 1 0", "worn 0 31", "worn 0 0", "word 0"};
        String two = "muster 1;man 1 0 0 0 0 0;man 1 0 0 0 0 0;pair 0 1;word 1;";
        for (String item : refused) {
            RiverChoice x = Bank.men(1);
            Due.type(x, two + item + ";");
            s.changesNothing(x, "read() with " + item, -1005, x::read);
        }
        for (String item : taken) {
            reads(two + item + ";", 6);
        }
    }

    // ---- the promises

    private void typeBad() {
        s.sentence(7, "A byte (0 .. 127) comes behind THE TEXT: how many it has. BAD;");
        RiverChoice x = new RiverChoice();
        for (int c = 0; c <= 127; c++) {
            s.due("type(" + c + ")", x.type(c), c + 1);
        }
        s.due("count(5)", x.count(5), 128);
        s.badBeyond(0, 127, RiverChoice::new, "type(#)", -2, (y, n) -> y.type(n));
        RiverChoice z = new RiverChoice();
        z.type(300);
        z.type(256 + 'm');
        s.due("refused bytes are none", z.type('m'), 1);
    }

    private void typeFull() {
        s.sentence(7, "FULL: 150.");
        RiverChoice x = new RiverChoice();
        for (int n = 1; n <= 150; n++) {
            s.due("byte " + n, x.type(n % 128), n);
        }
        s.refused(x, FULL, "byte 151", -4, () -> x.type('a'));
        s.refused(x, FULL, "byte 151, once more", -4, () -> x.type(0));
        s.refused(x, BAD, "BAD is looked at first", -2, () -> x.type(128));
        s.refused(x, BAD, "BAD is looked at first", -2, () -> x.type(-1));
        s.due("clear()", x.clear(), 150);
        s.due("byte 1", x.type('a'), 1);
    }

    private void clear() {
        s.sentence(8, "THE TEXT is empty: how many it had.");
        for (int length : new int[] {0, 1, 2, 149, 150, 151}) {
            RiverChoice x = new RiverChoice();
            Due.type(x, "y".repeat(length));
            int had = Math.min(150, length);
            s.due("clear() of " + length, x.clear(), had);
            s.due("count(5)", x.count(5), 0);
            s.due("clear() again", x.clear(), 0);
            s.due("read()", x.read(), -10);
        }
        RiverChoice y = Bank.men(1);
        y.test(0, 0, true);
        y.clear();
        s.due("tests may still be undone", y.undo(), 1);
    }

    private void readItems() {
        s.sentence(9, "how many ITEMS. -10 less the FAULT");
        reads("muster 9;", 1);
        fault("muster 9", 8);
        fault("", 0);
        fault("muster 9;" + " ".repeat(140) + ":", 149);
        fault("muster 9;" + " ".repeat(137) + "word", 150);
    }

    private void readFault() {
        s.sentence(9, "-10 less the FAULT; -1000 less the number of the first ITEM that is refused");
        reads("muster 9;word 0;", -1001);
        fault("muster 9;word 0;#", 16);
        fault("muster 9;word 0;word 0", 22);
        fault("muster 9;man 0 0 0 0 0 0;muster 9;", 25);
        reads("muster 9;man 0 0 0 0 0 0;word 0;", -1001);
    }

    private void readRefused() {
        s.sentence(9, "nothing changes.");
        String[] texts = {"", "muster", "muster 9;#", "muster 9;word 0;", "muster 9;man 1 1 1 1 1 1;word 1;"};
        int[] answers = {-10, -16, -19, -1001, -1002};
        RiverChoice x = Bank.men(2);
        x.pair(0, 1);
        x.test(0, 0, true);
        for (int i = 0; i < texts.length; i++) {
            Due.type(x, texts[i]);
            s.changesNothing(x, "read of '" + texts[i] + "'", answers[i], x::read);
        }
        s.due("undo()", x.undo(), 1);
    }
}
