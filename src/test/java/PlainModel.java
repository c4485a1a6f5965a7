import java.math.BigInteger;
import java.util.ArrayDeque;
import java.util.ArrayList;
import java.util.Arrays;
import java.util.Deque;
import java.util.List;
import java.util.regex.Matcher;
import java.util.regex.Pattern;

/**
 * The document once more, told another way than the class: whole states copied, outcomes and rows
 * gone through one by one, texts matched by patterns. Slow, and for tests alone.
 */
final class PlainModel {
    static final int BAD = -2;
    static final int NO = -3;
    static final int FULL = -4;

    static final class Man {
        BigInteger[] weights = new BigInteger[6];
        int signs;
        boolean word;
        List<Integer> brothers = new ArrayList<>();

        Man copy() {
            Man m = new Man();
            m.weights = weights.clone();
            m.signs = signs;
            m.word = word;
            m.brothers = new ArrayList<>(brothers);
            return m;
        }
    }

    static final class State {
        List<Man> men = new ArrayList<>();
        int daylight = 40;
        Deque<State> past = new ArrayDeque<>();

        State copy() {
            State s = bare();
            s.past = new ArrayDeque<>(past);
            return s;
        }

        State bare() {
            State s = new State();
            for (Man m : men) {
                s.men.add(m.copy());
            }
            s.daylight = daylight;
            return s;
        }
    }

    State state = new State();
    final State[] images = new State[2];
    String text = "";
    BigInteger above = BigInteger.ZERO;
    BigInteger below = BigInteger.ONE;
    final int[] status = new int[3];

    private static BigInteger big(long n) {
        return BigInteger.valueOf(n);
    }

    private int bad() {
        return bad(BAD);
    }

    private int bad(int answer) {
        status[0]++;
        return answer;
    }

    private int no() {
        return no(NO);
    }

    private int no(int answer) {
        status[1]++;
        return answer;
    }

    private int counted(int answer) {
        if (answer == BAD) {
            status[0]++;
        } else if (answer == NO) {
            status[1]++;
        } else if (answer == FULL) {
            status[2]++;
        } else {
            state.past.clear();
        }
        return answer;
    }

    private boolean isMan(int man) {
        return man >= 0 && man < state.men.size();
    }

    private boolean areMen(int men) {
        return men >= 0 && men < Math.pow(2, state.men.size());
    }

    private static boolean in(int low, int n, int high) {
        return n >= low && n <= high;
    }

    // ---- what is told

    private static int tell(State s, String what, int... n) {
        int size = s.men.size();
        switch (what) {
            case "muster":
                if (!in(0, n[0], 99)) {
                    return BAD;
                }
                s.men.clear();
                s.daylight = n[0];
                return size;
            case "man":
                for (int w : n) {
                    if (!in(0, w, 9)) {
                        return BAD;
                    }
                }
                if (Arrays.stream(n).sum() == 0) {
                    return BAD;
                }
                if (size == 6) {
                    return FULL;
                }
                Man m = new Man();
                for (int i = 0; i < 6; i++) {
                    m.weights[i] = big(n[i]);
                }
                s.men.add(m);
                return size;
            case "worn":
                if (!in(0, n[0], size - 1) || !in(0, n[1], 31)) {
                    return BAD;
                }
                int was = s.men.get(n[0]).signs;
                s.men.get(n[0]).signs = n[1];
                return was;
            case "pair":
                if (!in(0, n[0], size - 1) || !in(0, n[1], size - 1) || n[0] == n[1]) {
                    return BAD;
                }
                if (s.men.get(n[0]).brothers.contains(n[1])) {
                    return NO;
                }
                s.men.get(n[0]).brothers.add(n[1]);
                s.men.get(n[1]).brothers.add(n[0]);
                return 1;
            case "word":
                if (!in(0, n[0], size - 1)) {
                    return BAD;
                }
                if (s.men.get(n[0]).word) {
                    return NO;
                }
                s.men.get(n[0]).word = true;
                return 1;
            default:
                throw new IllegalStateException(what);
        }
    }

    int muster(int daylight) {
        return counted(tell(state, "muster", daylight));
    }

    int man(int a, int b, int c, int d, int e, int f) {
        return counted(tell(state, "man", a, b, c, d, e, f));
    }

    int worn(int man, int signs) {
        return counted(tell(state, "worn", man, signs));
    }

    int pair(int a, int b) {
        return counted(tell(state, "pair", a, b));
    }

    int word(int man) {
        return counted(tell(state, "word", man));
    }

    int type(int c) {
        if (!in(0, c, 127)) {
            return bad();
        }
        if (text.length() == 150) {
            status[2]++;
            return FULL;
        }
        text += (char) c;
        return text.length();
    }

    int clear() {
        int had = text.length();
        text = "";
        return had;
    }

    private static final Pattern TOKEN = Pattern.compile("[a-z]+|[0-9]+|;|[^a-z0-9; ]", Pattern.DOTALL);

    int read() {
        List<String> tokens = new ArrayList<>();
        List<Integer> places = new ArrayList<>();
        Matcher m = TOKEN.matcher(text);
        while (m.find()) {
            tokens.add(m.group());
            places.add(m.start());
        }
        tokens.add("END");
        places.add(text.length());
        List<String> words = new ArrayList<>();
        List<int[]> numbers = new ArrayList<>();
        int at = 0;
        while (words.isEmpty() || !tokens.get(at).equals("END")) {
            String word = tokens.get(at);
            boolean known = words.isEmpty() ? word.equals("muster") : word.matches("man|worn|pair|word");
            if (!known) {
                return -10 - places.get(at);
            }
            at++;
            int needs = word.equals("man") ? 6 : word.equals("worn") || word.equals("pair") ? 2 : 1;
            int[] row = new int[needs];
            for (int i = 0; i < needs; i++) {
                if (!tokens.get(at).matches("[0-9]{1,2}")) {
                    return -10 - places.get(at);
                }
                row[i] = Integer.parseInt(tokens.get(at));
                at++;
            }
            if (!tokens.get(at).equals(";")) {
                return -10 - places.get(at);
            }
            at++;
            words.add(word);
            numbers.add(row);
        }
        State anew = new State();
        for (int i = 0; i < words.size(); i++) {
            if (tell(anew, words.get(i), numbers.get(i)) < 0) {
                return -1000 - i;
            }
        }
        state = anew;
        return words.size();
    }

    // ---- tests

    static final int[] COST = {2, 5, 3};

    private static int casesIn(int kind, int what, boolean word) {
        int plain = new int[] {6, 5, 4, 6}[what];
        int timid = what == 3 ? plain - 4 : plain - 3;
        int brave = what == 3 ? plain + 4 : plain + 3;
        int boaster = what == 0 && word ? 11 : what == 3 ? timid - 1 : timid;
        switch (kind) {
            case 0:
                return plain;
            case 1:
                return brave;
            case 2:
                return timid;
            case 3:
                return boaster;
            case 4:
                return what == 0 ? brave / 2 : what == 3 ? brave + 1 : brave + 2;
            default:
                return what == 3 ? 0 : what == 2 ? 1 : boaster;
        }
    }

    private static void weigh(Man m, int test, boolean shown) {
        BigInteger all = BigInteger.ZERO;
        for (int k = 0; k < 6; k++) {
            int c = casesIn(k, test, m.word);
            m.weights[k] = m.weights[k].multiply(big(shown ? c : 12 - c));
            all = all.gcd(m.weights[k]);
        }
        for (int k = 0; k < 6; k++) {
            m.weights[k] = all.signum() == 0 ? BigInteger.ONE : m.weights[k].divide(all);
        }
        while (Arrays.stream(m.weights).anyMatch(w -> w.compareTo(big(999999)) > 0)) {
            for (int k = 0; k < 6; k++) {
                m.weights[k] = m.weights[k].shiftRight(1);
            }
        }
    }

    private static int parts(Man m, int what, boolean word) {
        BigInteger up = BigInteger.ZERO;
        BigInteger down = BigInteger.ZERO;
        for (int k = 0; k < 6; k++) {
            up = up.add(m.weights[k].multiply(big(60L * casesIn(k, what, word))));
            down = down.add(m.weights[k].multiply(big(12)));
        }
        return up.divide(down).intValueExact();
    }

    private static int trustIn(State s, int man) {
        return parts(s.men.get(man), 3, false);
    }

    private static void pass(State s, int man, int test, boolean shown) {
        s.daylight -= COST[test];
        weigh(s.men.get(man), test, shown);
        List<Integer> brothers = new ArrayList<>(s.men.get(man).brothers);
        brothers.sort(null);
        for (int b : brothers) {
            weigh(s.men.get(b), test, shown);
        }
        if (test == 0) {
            for (int m = 0; m < s.men.size(); m++) {
                if (Math.abs(m - man) == 1) {
                    s.men.get(m).word = true;
                }
            }
        }
    }

    int test(int man, int test, boolean shown) {
        if (!isMan(man) || !in(0, test, 2)) {
            return bad();
        }
        if (state.daylight < COST[test]) {
            return no();
        }
        state.past.addLast(state.bare());
        if (state.past.size() > 8) {
            state.past.removeFirst();
        }
        pass(state, man, test, shown);
        return trustIn(state, man);
    }

    int undo() {
        if (state.past.isEmpty()) {
            return no();
        }
        State ahead = state.past.removeLast().copy();
        ahead.past = state.past;
        state = ahead;
        return 1;
    }

    long weight(int man, int kind) {
        return isMan(man) && in(0, kind, 5) ? state.men.get(man).weights[kind].longValueExact() : bad();
    }

    int cases(int kind, int what, boolean word) {
        return in(0, kind, 5) && in(0, what, 3) ? casesIn(kind, what, word) : bad();
    }

    int trust(int man) {
        return isMan(man) ? trustIn(state, man) : bad();
    }

    private static int showsIn(State s, int man, int test) {
        return parts(s.men.get(man), test, s.men.get(man).word);
    }

    int shows(int man, int test) {
        return isMan(man) && in(0, test, 2) ? showsIn(state, man, test) : bad();
    }

    int of(int man, int what) {
        if (!isMan(man) || !in(0, what, 3)) {
            return bad();
        }
        Man m = state.men.get(man);
        if (what == 0) {
            return m.signs;
        }
        if (what == 1) {
            return bits(m.brothers);
        }
        if (what == 2) {
            return m.word ? 1 : 0;
        }
        BigInteger most = Arrays.stream(m.weights).reduce(BigInteger::max).get();
        return Arrays.asList(m.weights).indexOf(most);
    }

    private static int bits(List<Integer> men) {
        int bits = 0;
        for (int m : men) {
            bits += 1 << m;
        }
        return bits;
    }

    private static List<Integer> members(int men) {
        List<Integer> list = new ArrayList<>();
        for (int m = 0; m < 6; m++) {
            if ((men & 1 << m) != 0) {
                list.add(m);
            }
        }
        return list;
    }

    // ---- whom to keep

    /** Every outcome, of 60 to the number of men. */
    private static BigInteger ways(State s, List<Integer> men, int j) {
        BigInteger sum = BigInteger.ZERO;
        for (int outcome = 0; outcome < 1 << men.size(); outcome++) {
            if (Integer.bitCount(outcome) < j) {
                continue;
            }
            BigInteger product = BigInteger.ONE;
            for (int i = 0; i < men.size(); i++) {
                int t = trustIn(s, men.get(i));
                product = product.multiply(big((outcome >> i & 1) == 1 ? t : 60 - t));
            }
            sum = sum.add(product);
        }
        return sum;
    }

    int hold(int men, int j) {
        if (!areMen(men) || !in(0, j, 6)) {
            return bad();
        }
        List<Integer> list = members(men);
        BigInteger up = ways(state, list, j);
        BigInteger down = big(60).pow(list.size());
        above = up.divide(up.gcd(down));
        below = down.divide(up.gcd(down));
        return 1;
    }

    private static int keepIn(State s, int k, int j) {
        int best = -1;
        for (int men = 0; men < 1 << s.men.size(); men++) {
            if (members(men).size() == k
                    && (best < 0 || ways(s, members(men), j).compareTo(ways(s, members(best), j)) > 0)) {
                best = men;
            }
        }
        return best;
    }

    int keep(int k, int j) {
        if (!in(0, k, 6) || !in(0, j, 6)) {
            return bad(-10);
        }
        return keepIn(state, k, j);
    }

    private static int worthIn(State s, int man, int test, int k, int j) {
        State shown = s.bare();
        pass(shown, man, test, true);
        State hidden = s.bare();
        pass(hidden, man, test, false);
        int p = showsIn(s, man, test);
        BigInteger now = ways(s, members(keepIn(s, k, j)), j);
        BigInteger one = ways(shown, members(keepIn(shown, k, j)), j);
        BigInteger other = ways(hidden, members(keepIn(hidden, k, j)), j);
        return one.multiply(big(p)).add(other.multiply(big(60 - p))).subtract(now.multiply(big(60))).intValueExact();
    }

    int worth(int man, int test, int k, int j) {
        if (!isMan(man) || !in(0, test, 2) || !in(0, k, 3) || !in(0, j, 6)) {
            return bad(-100000000);
        }
        if (state.daylight < COST[test] || k > state.men.size()) {
            return no(-200000000);
        }
        return worthIn(state, man, test, k, j);
    }

    int best(int k, int j) {
        if (!in(0, k, 3) || !in(0, j, 6)) {
            return bad(-10);
        }
        int best = -1;
        for (int man = 0; man < state.men.size() && k <= state.men.size(); man++) {
            for (int test = 0; test < 3; test++) {
                if (state.daylight >= COST[test] && (best < 0 || worthIn(state, man, test, k, j)
                        > worthIn(state, best / 10, best % 10, k, j))) {
                    best = 10 * man + test;
                }
            }
        }
        return best;
    }

    int sift(int man, int t, int i) {
        if (!isMan(man) || !in(0, t, 60) || i < -1) {
            return bad(-10);
        }
        for (int length = 0; length <= 3; length++) {
            for (List<Integer> row : rows(length)) {
                State s = state.bare();
                for (int test : row) {
                    pass(s, man, test, true);
                }
                if (s.daylight >= 0 && trustIn(s, man) >= t) {
                    return i == -1 ? length : i < length ? row.get(i) : -5;
                }
            }
        }
        return -1;
    }

    private static List<List<Integer>> rows(int length) {
        List<List<Integer>> rows = new ArrayList<>();
        if (length == 0) {
            rows.add(new ArrayList<>());
            return rows;
        }
        for (int first = 0; first < 3; first++) {
            for (List<Integer> rest : rows(length - 1)) {
                List<Integer> row = new ArrayList<>();
                row.add(first);
                row.addAll(rest);
                rows.add(row);
            }
        }
        return rows;
    }

    int runs(int man) {
        if (!isMan(man)) {
            return bad();
        }
        State s = state.bare();
        int knew = 0;
        for (int m = man; m < s.men.size(); m++) {
            knew += s.men.get(m).word ? 1 << m : 0;
            pass(s, m, 0, true);
        }
        return knew;
    }

    int home(int t) {
        if (!in(0, t, 120)) {
            return bad();
        }
        for (int fewest = 0; fewest <= 6; fewest++) {
            for (int gone = 0; gone < 64; gone++) {
                if (areMen(gone) && Integer.bitCount(gone) == fewest && allTrusted(gone, t)) {
                    return gone;
                }
            }
        }
        throw new IllegalStateException();
    }

    private boolean allTrusted(int gone, int t) {
        for (int a = 0; a < state.men.size(); a++) {
            for (int b : state.men.get(a).brothers) {
                boolean stay = !members(gone).contains(a) && !members(gone).contains(b);
                if (stay && trustIn(state, a) + trustIn(state, b) < t) {
                    return false;
                }
            }
        }
        return true;
    }

    int spy(int man) {
        if (!isMan(man)) {
            return bad();
        }
        Man m = state.men.get(man).copy();
        m.weights[5] = BigInteger.ZERO;
        boolean none = Arrays.stream(m.weights).allMatch(w -> w.signum() == 0);
        return (none ? 60 : parts(m, 3, false)) - trustIn(state, man);
    }

    // ---- looks, boasters

    private boolean wears(int man, int set, boolean all) {
        int signs = state.men.get(man).signs;
        return all ? (signs | set) == signs : (signs & set) > 0;
    }

    private List<Integer> sets(int men, boolean all, int without) {
        List<Integer> sets = new ArrayList<>();
        for (int set = 0; set < 32; set++) {
            boolean fits = true;
            for (int m = 0; m < state.men.size(); m++) {
                fits &= m == without || wears(m, set, all) == members(men).contains(m);
            }
            if (fits) {
                sets.add(set);
            }
        }
        return sets;
    }

    int looks(int men, boolean all, int what) {
        if (!areMen(men) || !in(0, what, 1)) {
            return bad(-10);
        }
        List<Integer> sets = sets(men, all, -1);
        if (what == 0) {
            return sets.size();
        }
        return sets.stream().reduce((a, b) -> a & b).orElse(-1);
    }

    int next(int men) {
        if (!areMen(men)) {
            return bad(-10);
        }
        for (int man = 0; man < state.men.size(); man++) {
            final int m = man;
            List<Integer> sets = sets(men, true, m);
            if (sets.stream().map(set -> wears(m, set, true)).distinct().count() == 2) {
                return m;
            }
        }
        return -1;
    }

    int boast(int a, int b, int what) {
        if (!isMan(a) || !isMan(b) || a == b || !in(0, what, 1)) {
            return bad();
        }
        if (!state.men.get(a).word || !state.men.get(b).word) {
            return no();
        }
        int ta = trustIn(state, a);
        int tb = trustIn(state, b);
        List<Integer> resting = new ArrayList<>();
        for (int pair : new int[] {0, 1, 10, 11}) {
            int one = pair / 10;
            int other = pair % 10;
            if (gain(ta, one, other) >= gain(ta, 1 - one, other) && gain(tb, other, one) >= gain(tb, 1 - other, one)) {
                resting.add(pair);
            }
        }
        return what == 0 ? resting.size() : resting.isEmpty() ? -1 : resting.get(0);
    }

    private static int gain(int trust, int own, int other) {
        if (own == 1 && other == 0) {
            return 4;
        }
        if (own == 1) {
            return 2 - trust / 30;
        }
        return trust < 20 ? 3 : 1;
    }

    int again(int man) {
        if (!isMan(man)) {
            return bad();
        }
        State s = state.bare();
        pass(s, man, 0, true);
        return parts(s.men.get(man), 0, true);
    }

    int drawn(int men, int n, int seed) {
        if (!areMen(men) || !in(0, n, 30) || !in(0, seed, 999999)) {
            return bad();
        }
        BigInteger x = big(seed);
        int held = 0;
        for (int day = 0; day < n; day++) {
            for (int man : members(men)) {
                x = x.multiply(big(1103515245)).add(big(12345)).mod(big(2147483648L));
                if (x.divide(big(65536)).mod(big(60)).intValueExact() < trustIn(state, man)) {
                    held++;
                }
            }
        }
        return held;
    }

    // ---- what there is

    long part(int what) {
        return what == 0 ? above.longValueExact() : what == 1 ? below.longValueExact() : bad();
    }

    int image(int i) {
        if (!in(0, i, 1)) {
            return bad();
        }
        images[i] = state.copy();
        return 1;
    }

    int from(int i) {
        if (!in(0, i, 1)) {
            return bad();
        }
        if (images[i] == null) {
            return no();
        }
        state = images[i].copy();
        return 1;
    }

    int status(int what) {
        return in(0, what, 2) ? status[what] : bad(-1);
    }

    private int howMany(int what) {
        int brothers = state.men.stream().mapToInt(m -> m.brothers.size()).sum();
        int knowing = (int) state.men.stream().filter(m -> m.word).count();
        return new int[] {state.men.size(), state.daylight, brothers / 2, knowing, state.past.size(), text.length()}[what];
    }

    int count(int what) {
        return in(0, what, 5) ? howMany(what) : bad();
    }

    long digest() {
        List<BigInteger> values = new ArrayList<>();
        for (int what = 0; what < 6; what++) {
            values.add(big(howMany(what)));
        }
        for (Man m : state.men) {
            values.addAll(Arrays.asList(m.weights));
            values.add(big(m.signs));
            values.add(big(bits(m.brothers)));
            values.add(big(m.word ? 1 : 0));
        }
        values.add(above);
        values.add(below);
        BigInteger h = big(971);
        for (BigInteger v : values) {
            h = h.multiply(big(31)).add(v);
        }
        return h.longValue();
    }
}
