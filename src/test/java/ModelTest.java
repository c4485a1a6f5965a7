import java.util.Random;

/** Runs of 512 calls, drawn by fixed seeds, on the class and on the plain model: the answers must be alike. */
public final class ModelTest {
    private static final int RUNS = 250;
    private static final int CALLS = 512;
    private static final int[] ODD = {-2147483648, -3, -2, -1, 6, 7, 10, 31, 32, 61, 64, 99, 100, 121, 128, 150, 1000000, 2147483647};
    private static final String[] WORDS = {"muster", "man", "worn", "pair", "word", "mustere", "m", "zz"};

    private final Random random;
    private final RiverChoice x = new RiverChoice();
    private final PlainModel model = new PlainModel();
    private final Due due;
    private final String run;
    private String typed = "";

    private ModelTest(int seed, Due due) {
        random = new Random(seed);
        run = "run " + seed + ": ";
        this.due = due;
    }

    public static void main(String[] args) {
        Due due = new Due();
        for (int seed = 1; seed <= RUNS; seed++) {
            ModelTest one = new ModelTest(seed, due);
            for (int i = 0; i < CALLS; i++) {
                one.step(i);
            }
        }
        due.end();
    }

    private int odd(int n) {
        return random.nextInt(25) == 0 ? ODD[random.nextInt(ODD.length)] : n;
    }

    private int upTo(int n) {
        return odd(random.nextInt(n + 1));
    }

    /** A man that is there, mostly. */
    private int some() {
        int size = model.state.men.size();
        return odd(size == 0 || random.nextInt(40) == 0 ? random.nextInt(7) : random.nextInt(size));
    }

    private int set() {
        return odd(random.nextInt(1 << model.state.men.size()));
    }

    private void step(int i) {
        int pick = i < 6 ? 1 : random.nextInt(200);
        if (pick < 12) {
            tellMen(pick);
        } else if (pick < 40) {
            tellMore(pick);
        } else if (pick < 52) {
            writeText();
        } else if (pick < 110) {
            tests(random.nextInt(12));
        } else if (pick < 150) {
            choices(random.nextInt(9));
        } else if (pick < 175) {
            lookers(random.nextInt(6));
        } else {
            state(random.nextInt(12));
        }
        due.due(run + "digest", x.digest(), model.digest());
    }

    private int weight() {
        return odd(random.nextInt(3) == 0 ? random.nextInt(10) : 0);
    }

    private void tellMen(int pick) {
        if (pick == 0) {
            int d = upTo(99);
            due.due(run + "muster(" + d + ")", x.muster(d), model.muster(d));
        } else {
            int[] w = {weight(), weight(), weight(), weight(), weight(), weight()};
            due.due(run + "man", x.man(w[0], w[1], w[2], w[3], w[4], w[5]), model.man(w[0], w[1], w[2], w[3], w[4], w[5]));
        }
    }

    private void tellMore(int pick) {
        int a = some();
        int b = some();
        if (pick < 20) {
            int signs = upTo(31);
            due.due(run + "worn(" + a + ", " + signs + ")", x.worn(a, signs), model.worn(a, signs));
        } else if (pick < 23) {
            due.due(run + "pair(" + a + ", " + b + ")", x.pair(a, b), model.pair(a, b));
        } else if (pick < 26) {
            due.due(run + "word(" + a + ")", x.word(a), model.word(a));
        } else {
            int c = upTo(127);
            due.due(run + "type(" + c + ")", x.type(c), model.type(c));
        }
    }

    private String number(int most) {
        if (random.nextInt(150) == 0) {
            return "1" + random.nextInt(100) + "0";
        }
        String n = "" + random.nextInt(most + 1 + (random.nextInt(60) == 0 ? 40 : 0));
        return n.length() == 1 && random.nextInt(8) == 0 ? "0" + n : n;
    }

    private String blanks() {
        return random.nextInt(6) == 0 ? "   ".substring(random.nextInt(3)) : " ";
    }

    private void addItem(StringBuilder s, boolean first) {
        String word = first ? "muster" : WORDS[random.nextInt(50) == 0 ? random.nextInt(8) : 1 + random.nextInt(4)];
        s.append(random.nextInt(8) == 0 ? blanks() : "").append(word);
        int needs = word.equals("man") ? 6 : word.equals("worn") || word.equals("pair") ? 2 : 1;
        needs += random.nextInt(80) == 0 ? random.nextInt(3) - 1 : 0;
        for (int i = 0; i < needs; i++) {
            s.append(i == 0 && random.nextInt(4) == 0 ? "" : blanks());
            s.append(number(first ? 99 : word.equals("man") ? 9 : word.equals("worn") && i == 1 ? 31 : 2));
        }
        s.append(random.nextInt(8) == 0 ? blanks() : "").append(random.nextInt(70) == 0 ? "" : ";");
    }

    private void writeText() {
        if (random.nextInt(4) > 0) {
            due.due(run + "clear", x.clear(), model.clear());
            StringBuilder s = new StringBuilder();
            addItem(s, random.nextInt(15) > 0);
            int men = 1 + random.nextInt(5);
            for (int i = 0; i < men; i++) {
                s.append("man ").append(1 + random.nextInt(9));
                for (int k = 1; k < 6; k++) {
                    s.append(' ').append(number(9));
                }
                s.append(";");
            }
            int items = random.nextInt(5);
            for (int i = 0; i < items; i++) {
                addItem(s, random.nextInt(60) == 0);
            }
            if (random.nextInt(8) == 0) {
                s.setLength(random.nextInt(s.length() + 1));
            }
            if (random.nextInt(12) == 0) {
                s.insert(random.nextInt(s.length() + 1), (char) random.nextInt(128));
            }
            typed = s.toString();
            for (int i = 0; i < typed.length(); i++) {
                due.due(run + "type of " + typed, x.type(typed.charAt(i)), model.type(typed.charAt(i)));
            }
        }
        due.due(run + "read of " + typed, x.read(), model.read());
    }

    private void tests(int pick) {
        int man = some();
        int test = upTo(2);
        boolean shown = random.nextBoolean();
        if (pick < 6) {
            due.due(run + "test(" + man + ", " + test + ", " + shown + ")", x.test(man, test, shown), model.test(man, test, shown));
        } else if (pick == 6) {
            due.due(run + "undo", x.undo(), model.undo());
        } else if (pick == 7) {
            int kind = upTo(5);
            due.due(run + "weight(" + man + ", " + kind + ")", x.weight(man, kind), model.weight(man, kind));
        } else if (pick == 8) {
            int kind = upTo(5);
            int what = upTo(3);
            due.due(run + "cases(" + kind + ", " + what + ", " + shown + ")", x.cases(kind, what, shown), model.cases(kind, what, shown));
        } else if (pick == 9) {
            due.due(run + "trust(" + man + ")", x.trust(man), model.trust(man));
        } else if (pick == 10) {
            due.due(run + "shows(" + man + ", " + test + ")", x.shows(man, test), model.shows(man, test));
        } else {
            int what = upTo(3);
            due.due(run + "of(" + man + ", " + what + ")", x.of(man, what), model.of(man, what));
        }
    }

    private void choices(int pick) {
        int man = some();
        int k = upTo(3);
        int j = upTo(random.nextInt(4) == 0 ? 6 : 3);
        int test = upTo(2);
        int men = set();
        if (pick == 0) {
            due.due(run + "hold(" + men + ", " + j + ")", x.hold(men, j), model.hold(men, j));
        } else if (pick == 1) {
            int most = upTo(6);
            due.due(run + "keep(" + most + ", " + j + ")", x.keep(most, j), model.keep(most, j));
        } else if (pick == 2) {
            String call = "worth(" + man + ", " + test + ", " + k + ", " + j + ")";
            due.due(run + call, x.worth(man, test, k, j), model.worth(man, test, k, j));
        } else if (pick == 3 && random.nextInt(4) == 0) {
            due.due(run + "best(" + k + ", " + j + ")", x.best(k, j), model.best(k, j));
        } else if (pick < 6) {
            int t = upTo(60);
            int i = odd(random.nextInt(5) - 1);
            due.due(run + "sift(" + man + ", " + t + ", " + i + ")", x.sift(man, t, i), model.sift(man, t, i));
        } else if (pick == 6) {
            due.due(run + "runs(" + man + ")", x.runs(man), model.runs(man));
        } else if (pick == 7) {
            int t = upTo(120);
            due.due(run + "home(" + t + ")", x.home(t), model.home(t));
        } else {
            due.due(run + "spy(" + man + ")", x.spy(man), model.spy(man));
        }
    }

    private void lookers(int pick) {
        int a = some();
        int b = some();
        int men = set();
        int what = upTo(1);
        boolean all = random.nextBoolean();
        if (pick == 0) {
            due.due(run + "looks(" + men + ", " + all + ", " + what + ")", x.looks(men, all, what), model.looks(men, all, what));
        } else if (pick == 1) {
            due.due(run + "next(" + men + ")", x.next(men), model.next(men));
        } else if (pick < 4) {
            due.due(run + "boast(" + a + ", " + b + ", " + what + ")", x.boast(a, b, what), model.boast(a, b, what));
        } else if (pick == 4) {
            due.due(run + "again(" + a + ")", x.again(a), model.again(a));
        } else {
            int n = upTo(30);
            int seed = odd(random.nextInt(1000000));
            due.due(run + "drawn(" + men + ", " + n + ", " + seed + ")", x.drawn(men, n, seed), model.drawn(men, n, seed));
        }
    }

    private void state(int pick) {
        int i = upTo(1);
        int what = upTo(2);
        int counted = upTo(5);
        if (pick < 3) {
            due.due(run + "part(" + i + ")", x.part(i), model.part(i));
        } else if (pick < 5) {
            due.due(run + "image(" + i + ")", x.image(i), model.image(i));
        } else if (pick < 7) {
            due.due(run + "from(" + i + ")", x.from(i), model.from(i));
        } else if (pick < 9) {
            due.due(run + "status(" + what + ")", x.status(what), model.status(what));
        } else {
            due.due(run + "count(" + counted + ")", x.count(counted), model.count(counted));
        }
    }
}
