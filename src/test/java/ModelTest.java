import java.util.ArrayList;
import java.util.List;
import java.util.Random;

// Runs of random calls, each answer against a second program that follows the document's definitions
// word by word: it acts a thought out on a whole copy of the state instead of reckoning with tables.
public final class ModelTest {
    private static final int RUNS = 400;
    private static final int CALLS = 512;
    private static int wrong = 0;

    // ------------------------------------------------------------------ the second program

    private interface Tree {
        int of(int[] names);
    }

    private static final class Fault extends RuntimeException {
        private static final long serialVersionUID = 1;
        final int place;

        Fault(int place) {
            this.place = place;
        }
    }

    private static final class Token {
        final String letters;
        final int place;

        Token(String letters, int place) {
            this.letters = letters;
            this.place = place;
        }
    }

    private static final class Parser {
        static final List<String> NAMES = List.of("thing", "temper", "number", "day", "coat", "own");
        static final List<String> KEYS = List.of("heats", "calms", "feels", "or", "and", "not");
        final List<Token> tokens = new ArrayList<>();
        int at = 0;
        int open = 0;

        Parser(String tape) {
            int i = 0;
            while (i < tape.length()) {
                char c = tape.charAt(i);
                if (c == ' ' || c == '\n') {
                    i++;
                    continue;
                }
                int j = i + 1;
                if (c >= 'a' && c <= 'z') {
                    while (j < tape.length() && tape.charAt(j) >= 'a' && tape.charAt(j) <= 'z') {
                        j++;
                    }
                } else if (c >= '0' && c <= '9') {
                    while (j < tape.length() && tape.charAt(j) >= '0' && tape.charAt(j) <= '9') {
                        j++;
                    }
                }
                tokens.add(new Token(tape.substring(i, j), i));
                i = j;
            }
            tokens.add(new Token("", tape.length()));
        }

        String now() {
            return tokens.get(at).letters;
        }

        Fault fault() {
            return new Fault(tokens.get(at).place);
        }

        void take(String letters) {
            if (!now().equals(letters)) {
                throw fault();
            }
            at++;
        }

        Tree[] text() {
            Tree[] parts = new Tree[3];
            for (int i = 0; i < 3; i++) {
                take(KEYS.get(i));
                parts[i] = e();
                take(";");
            }
            take("");
            return parts;
        }

        Tree e() {
            Tree a = and();
            while (now().equals("or")) {
                at++;
                Tree left = a;
                Tree right = and();
                a = n -> left.of(n) != 0 || right.of(n) != 0 ? 1 : 0;
            }
            return a;
        }

        Tree and() {
            Tree a = not();
            while (now().equals("and")) {
                at++;
                Tree left = a;
                Tree right = not();
                a = n -> left.of(n) != 0 && right.of(n) != 0 ? 1 : 0;
            }
            return a;
        }

        void opens() {
            if (open == 5) {
                throw fault();
            }
            open++;
            at++;
        }

        Tree not() {
            if (now().equals("not")) {
                opens();
                Tree inner = not();
                open--;
                return n -> inner.of(n) == 0 ? 1 : 0;
            }
            Tree a = sum();
            if (now().equals("<")) {
                at++;
                Tree b = sum();
                return n -> a.of(n) < b.of(n) ? 1 : 0;
            }
            if (now().equals("=")) {
                at++;
                Tree b = sum();
                return n -> a.of(n) == b.of(n) ? 1 : 0;
            }
            return a;
        }

        Tree sum() {
            Tree a = term();
            while (now().equals("+") || now().equals("-")) {
                int sign = now().equals("+") ? 1 : -1;
                at++;
                Tree left = a;
                Tree right = term();
                a = n -> left.of(n) + sign * right.of(n);
            }
            return a;
        }

        Tree term() {
            Tree a = one();
            while (now().equals("*")) {
                at++;
                Tree left = a;
                Tree right = one();
                a = n -> left.of(n) * right.of(n);
            }
            return a;
        }

        Tree one() {
            String t = now();
            if (t.matches("[0-9]{1,4}")) {
                at++;
                int number = Integer.parseInt(t);
                return n -> number;
            }
            if (NAMES.contains(t)) {
                at++;
                int name = NAMES.indexOf(t);
                return n -> n[name];
            }
            if (t.equals("-")) {
                opens();
                Tree inner = one();
                open--;
                return n -> -inner.of(n);
            }
            if (t.equals("(")) {
                opens();
                Tree inner = e();
                take(")");
                open--;
                return inner;
            }
            throw fault();
        }
    }

    private static final class G {
        int kind;
        int number;
        int thing;
        int temper;
        int wears;
    }

    private static final class State {
        int day = 0;
        int limit = 60;
        int rule = 0;
        List<G> grooms = new ArrayList<>();

        State copy() {
            State s = new State();
            s.day = day;
            s.limit = limit;
            s.rule = rule;
            for (G g : grooms) {
                G h = new G();
                h.kind = g.kind;
                h.number = g.number;
                h.thing = g.thing;
                h.temper = g.temper;
                h.wears = g.wears;
                s.grooms.add(h);
            }
            return s;
        }
    }

    private static final class Model {
        State state = new State();
        State kept = null;
        final List<Tree[]> texts = new ArrayList<>();
        StringBuilder tape = new StringBuilder();
        final int[][] sheets = new int[4][];
        final int[] sorts = {-1, -1, -1, -1};

        Model() {
            texts.add(new Parser("heats 7 ; calms thing ; feels thing * 3 ;").text());
        }

        // ---- one groom

        static int bound(int v) {
            return v < 0 ? 0 : v > 99 ? 99 : v;
        }

        int tell(State s, int g, int part) {
            G o = s.grooms.get(g);
            int has = s.grooms.get(o.wears).thing;
            int[] names = part == 2 ? new int[] {has, 0, o.number, 0, 0, 0}
                : new int[] {has, o.temper, o.number, s.day, o.wears, o.wears == g ? 1 : 0};
            return bound(texts.get(s.rule)[part].of(names));
        }

        static int heats(int kind, int v, int day, int number) {
            switch (kind) {
                case 1: return bound(heats(0, v, day, number) + 3);
                case 2: return bound(heats(0, v, day, number) / 2);
                case 3: return day % 4 == 1 ? 0 : heats(1, v, day, number);
                case 4: return bound(heats(2, v, day, number) - number);
                case 5: return bound(2 * heats(0, v, day, number));
                default: return v;
            }
        }

        static int calms(int kind, int v, int t, int number) {
            switch (kind) {
                case 1: return t % 2 == 0 ? v : v / 2;
                case 2: return bound(calms(0, v, t, number) + 2);
                case 3: return bound(calms(1, v, t, number) + number);
                case 4: return t == 7 || t == 13 ? 0 : calms(2, v, t, number);
                case 5: return t;
                default: return v;
            }
        }

        static int feels(int kind, int v) {
            switch (kind) {
                case 1: return feels(0, v);
                case 2: return v % 10;
                case 3: return bound(2 * feels(1, v));
                case 4: return bound(1 + feels(2, v));
                case 5: return v < 5 ? 0 : feels(0, v);
                default: return v;
            }
        }

        int heat(State s, int g) {
            G o = s.grooms.get(g);
            return heats(o.kind, tell(s, g, 0), s.day, o.number);
        }

        int calm(State s, int g) {
            G o = s.grooms.get(g);
            return calms(o.kind, tell(s, g, 1), s.grooms.get(o.wears).thing, o.number);
        }

        int feel(State s, int g) {
            return feels(s.grooms.get(g).kind, tell(s, g, 2));
        }

        // ---- days

        int oneDay(State s) {
            int over = 0;
            for (int g = 0; g < s.grooms.size(); g++) {
                G o = s.grooms.get(g);
                o.temper = Math.min(99, o.temper + heat(s, g));
                if (o.temper >= s.limit) {
                    over |= 1 << g;
                }
                o.temper = Math.max(0, o.temper - calm(s, g));
            }
            s.day++;
            return over;
        }

        static int warm(State s) {
            int warm = 0;
            for (G g : s.grooms) {
                warm += g.temper;
            }
            return warm;
        }

        int warmBehind(State s, int n) {
            State thought = s.copy();
            for (int d = 0; d < n; d++) {
                oneDay(thought);
            }
            return warm(thought);
        }

        int run(int n, int what) {
            int size = state.grooms.size();
            boolean one = what >= 10 && what < 10 + size || what >= 20 && what < 20 + size;
            if (n < 0 || n > 40 || !one && what != 0 && what != 1) {
                return -2;
            }
            State thought = state.copy();
            int boils = 0;
            int first = -1;
            for (int d = 0; d < n; d++) {
                int over = oneDay(thought);
                boils += Integer.bitCount(over);
                if (what >= 20 && first == -1 && (over >> (what - 20) & 1) == 1) {
                    first = d;
                }
            }
            return what == 0 ? warm(thought) : what == 1 ? boils : what >= 20 ? first
                : thought.grooms.get(what - 10).temper;
        }

        // ---- coats

        static void swap(State s, int i, int j) {
            int w = s.grooms.get(i).wears;
            s.grooms.get(i).wears = s.grooms.get(j).wears;
            s.grooms.get(j).wears = w;
        }

        static int misplaced(State s) {
            int many = 0;
            for (int g = 0; g < s.grooms.size(); g++) {
                many += s.grooms.get(g).wears == g ? 0 : 1;
            }
            return many;
        }

        /** The fewest changes till all wear their own: tried out, with more and more changes. */
        static boolean canIn(State s, int changes) {
            int off = misplaced(s);
            if (off == 0) {
                return true;
            }
            if (changes == 0 || off > 2 * changes) {
                return false;
            }
            for (int i = 0; i < s.grooms.size(); i++) {
                for (int j = i + 1; j < s.grooms.size(); j++) {
                    swap(s, i, j);
                    boolean can = canIn(s, changes - 1);
                    swap(s, i, j);
                    if (can) {
                        return true;
                    }
                }
            }
            return false;
        }

        static int right(State s) {
            int changes = 0;
            while (!canIn(s, changes)) {
                changes++;
            }
            return changes;
        }

        static int firstChange(State s) {
            int right = right(s);
            if (right == 0) {
                return -1;
            }
            for (int i = 0; i < s.grooms.size(); i++) {
                for (int j = i + 1; j < s.grooms.size(); j++) {
                    swap(s, i, j);
                    boolean begins = canIn(s, right - 1);
                    swap(s, i, j);
                    if (begins) {
                        return 10 * i + j;
                    }
                }
            }
            return -1;
        }

        int ring(int one) {
            if (one < 0 || one >= state.grooms.size()) {
                return -2;
            }
            int bits = 1 << one;
            for (int at = state.grooms.get(one).wears; at != one; at = state.grooms.get(at).wears) {
                bits |= 1 << at;
            }
            return bits;
        }

        int rings(int what) {
            java.util.Set<Integer> all = new java.util.TreeSet<>();
            int most = 0;
            int own = 0;
            for (int g = 0; g < state.grooms.size(); g++) {
                all.add(ring(g));
                most = Math.max(most, Integer.bitCount(ring(g)));
                own |= state.grooms.get(g).wears == g ? 1 << g : 0;
            }
            switch (what) {
                case 0: return all.size();
                case 1: return most;
                case 2: return right(state.copy());
                case 3: return firstChange(state.copy());
                case 4: return own;
                default: return -2;
            }
        }

        int better(int n, int what) {
            if (n < 0 || n > 40 || what < 0 || what > 1) {
                return -2;
            }
            int least = warmBehind(state, n);
            int best = -1;
            for (int i = 0; i < state.grooms.size(); i++) {
                for (int j = i + 1; j < state.grooms.size(); j++) {
                    State s = state.copy();
                    swap(s, i, j);
                    int warm = warmBehind(s, n);
                    if (warm < least) {
                        least = warm;
                        best = 10 * i + j;
                    }
                }
            }
            return what == 0 ? best : least;
        }

        static void ways(int size, List<Integer> so, List<List<Integer>> all) {
            if (so.size() == size) {
                all.add(new ArrayList<>(so));
                return;
            }
            for (int coat = 0; coat < size; coat++) {
                if (!so.contains(coat)) {
                    so.add(coat);
                    ways(size, so, all);
                    so.remove(so.size() - 1);
                }
            }
        }

        List<List<Integer>> ways() {
            List<List<Integer>> all = new ArrayList<>();
            ways(state.grooms.size(), new ArrayList<>(), all);
            return all;
        }

        static int digits(List<Integer> way) {
            int digits = 0;
            for (int coat : way) {
                digits = digits * 10 + coat + 1;
            }
            return digits;
        }

        State worn(List<Integer> way) {
            State s = state.copy();
            for (int g = 0; g < way.size(); g++) {
                s.grooms.get(g).wears = way.get(g);
            }
            return s;
        }

        int best(int n, int what) {
            if (n < 0 || n > 10 || what < 0 || what > 1) {
                return -2;
            }
            int least = Integer.MAX_VALUE;
            int digits = 0;
            for (List<Integer> way : ways()) {
                int warm = warmBehind(worn(way), n);
                if (warm < least || warm == least && digits(way) < digits) {
                    least = warm;
                    digits = digits(way);
                }
            }
            return what == 0 ? digits : least;
        }

        static int from(State s, int one) {
            int open = 1 << one;
            boolean more = true;
            while (more) {
                more = false;
                for (int a = 0; a < s.grooms.size(); a++) {
                    for (int b = 0; b < s.grooms.size(); b++) {
                        int t = s.grooms.get(a).thing;
                        boolean opens = t >= 8 && t % 8 == s.grooms.get(b).number % 8;
                        if ((open >> a & 1) == 1 && opens && (open >> b & 1) == 0) {
                            open |= 1 << b;
                            more = true;
                        }
                    }
                }
            }
            return open;
        }

        int from(int one) {
            return one < 0 || one >= state.grooms.size() ? -2 : from(state, one);
        }

        int keys(int what) {
            int size = state.grooms.size();
            int key = -1;
            int most = 0;
            for (int g = size - 1; g >= 0; g--) {
                if (Integer.bitCount(from(state, g)) >= most) {
                    most = Integer.bitCount(from(state, g));
                    key = g;
                }
            }
            int sets = -1;
            for (int some = 0; some < 1 << size; some++) {
                int open = 0;
                for (int g = 0; g < size; g++) {
                    open |= (some >> g & 1) == 1 ? from(state, g) : 0;
                }
                boolean all = open == (1 << size) - 1;
                if (all && (sets == -1 || Integer.bitCount(some) < Integer.bitCount(sets))) {
                    sets = some;
                }
            }
            switch (what) {
                case 0: return key;
                case 1: return most;
                case 2: return sets;
                case 3: return Integer.bitCount(sets);
                default: return -2;
            }
        }

        // ---- what was felt

        int unlike(State s, int[] felt) {
            int bits = 0;
            for (int g = 0; g < s.grooms.size(); g++) {
                bits |= feel(s, g) == felt[g] ? 0 : 1 << g;
            }
            return bits;
        }

        int tells(int sheet, int what) {
            int size = state.grooms.size();
            boolean one = what >= 10 && what < 40 && what % 10 < size;
            if (sheet < 0 || sheet > 3 || !one && (what < 0 || what > 4)) {
                return -2;
            }
            int[] felt = sheets[sheet];
            if (felt == null) {
                return -11;
            }
            if (felt.length != size) {
                return -2;
            }
            if (what == 0) {
                return unlike(state, felt);
            }
            if (what < 4) {
                List<List<Integer>> so = new ArrayList<>();
                for (List<Integer> way : ways()) {
                    if (unlike(worn(way), felt) == 0) {
                        so.add(way);
                    }
                }
                int sure = 0;
                for (int g = 0; g < size && !so.isEmpty(); g++) {
                    boolean same = true;
                    for (List<Integer> way : so) {
                        same &= way.get(g).equals(so.get(0).get(g));
                    }
                    sure |= same ? 1 << g : 0;
                }
                return what == 1 ? so.size() : what == 3 ? sure : so.isEmpty() ? 0 : digits(so.get(0));
            }
            int bits = 0;
            int many = what == 4 ? texts.size() : what < 20 ? 6 : what < 30 ? 10 : 16;
            for (int v = 0; v < many; v++) {
                State s = state.copy();
                if (what == 4) {
                    s.rule = v;
                } else if (what < 20) {
                    s.grooms.get(what % 10).kind = v;
                } else if (what < 30) {
                    s.grooms.get(what % 10).number = v;
                } else {
                    s.grooms.get(what % 10).thing = v;
                }
                bits |= unlike(s, felt) == 0 ? 1 << v : 0;
            }
            return bits;
        }

        State draw(int seed) {
            State s = state.copy();
            int z = seed;
            for (G g : s.grooms) {
                z = (int) ((z * 1103515245L + 12345L) & 0xffffffffL);
                g.thing = (int) (((z & 0xffffffffL) / 512) % 16);
            }
            return s;
        }

        int drawn(int seed, int n) {
            return n < 0 || n > 40 ? -2 : warmBehind(draw(seed), n);
        }

        long chance(int seed, int m, int part) {
            if (m < 1 || m > 20 || part < 0 || part > 1) {
                return SewnUp.NO;
            }
            int above = 0;
            for (int k = 0; k < m; k++) {
                State s = draw(seed + k);
                boolean all = false;
                for (int g = 0; g < s.grooms.size(); g++) {
                    all |= from(s, g) == (1 << s.grooms.size()) - 1;
                }
                above += all ? 1 : 0;
            }
            int below = m;
            for (int d = 2; d <= m; d++) {
                while (above % d == 0 && below % d == 0) {
                    above /= d;
                    below /= d;
                }
            }
            return part == 0 ? above : below;
        }

        // ---- the rest

        int told(int of, int what) {
            if (what == 0 || what == 1) {
                return what == 0 ? state.day : state.limit;
            }
            if (what < 0 || what > 10 || of < 0 || of >= state.grooms.size()) {
                return -2;
            }
            G g = state.grooms.get(of);
            switch (what) {
                case 2: return g.number;
                case 3: return g.thing;
                case 4: return g.temper;
                case 5: return g.kind;
                case 6: return g.wears;
                case 7: return state.grooms.get(g.wears).thing;
                case 8: return heat(state, of);
                case 9: return calm(state, of);
                default: return feel(state, of);
            }
        }

        int set(int what, int of, int v) {
            int[] last = {999, 99, 9, 15, 99};
            if (what < 0 || what > 4 || what > 1 && (of < 0 || of >= state.grooms.size()) || v < 0
                || v > last[what]) {
                return -2;
            }
            int was = told(of, what);
            if (what == 0) {
                state.day = v;
            } else if (what == 1) {
                state.limit = v;
            } else if (what == 2) {
                state.grooms.get(of).number = v;
            } else if (what == 3) {
                state.grooms.get(of).thing = v;
            } else {
                state.grooms.get(of).temper = v;
            }
            return was;
        }

        int groom(int kind, int number, int thing) {
            if (kind < 0 || kind > 5 || number < 0 || number > 9 || thing < 0 || thing > 15) {
                return -2;
            }
            if (state.grooms.size() == 6) {
                return -4;
            }
            G g = new G();
            g.kind = kind;
            g.number = number;
            g.thing = thing;
            g.temper = 20;
            g.wears = state.grooms.size();
            state.grooms.add(g);
            return g.wears;
        }

        int change(int one, int other) {
            int size = state.grooms.size();
            if (one < 0 || one >= size || other < 0 || other >= size || one == other) {
                return -2;
            }
            swap(state, one, other);
            return state.grooms.get(one).wears;
        }

        int feed(int letter) {
            if (letter < 0 || letter > 255) {
                return -2;
            }
            if (tape.length() == 160) {
                return -4;
            }
            tape.append((char) letter);
            return tape.length();
        }

        int text() {
            if (texts.size() == 6) {
                return -4;
            }
            String letters = tape.toString();
            tape = new StringBuilder();
            try {
                texts.add(new Parser(letters).text());
                return texts.size() - 1;
            } catch (Fault f) {
                return -100 - f.place;
            }
        }

        int force(int text) {
            if (text < 0 || text >= texts.size()) {
                return -2;
            }
            int was = state.rule;
            state.rule = text;
            return was;
        }

        int film(int sheet) {
            if (sheet < 0 || sheet > 3) {
                return -2;
            }
            int size = state.grooms.size();
            sheets[sheet] = new int[size];
            sorts[sheet] = 0;
            for (int g = 0; g < size; g++) {
                sheets[sheet][g] = feel(state, g);
            }
            return size;
        }

        int count(int what) {
            int boil = 0;
            for (G g : state.grooms) {
                boil += g.temper >= state.limit ? 1 : 0;
            }
            int[] all = {state.grooms.size(), warm(state), boil, texts.size(), tape.length(), state.rule};
            return what < 0 || what > 5 ? -2 : all[what];
        }

        int sheet(int sheet, int sort, int n) {
            if (sheet < 0 || sheet > 3 || sort < -1 || sort > 2) {
                return -2;
            }
            if (sort >= 0 && (n > 40 || n < 0)) {
                return n < 0 ? -14 : -2;
            }
            sorts[sheet] = sort;
            sheets[sheet] = sort < 0 ? null : new int[n];
            return 1;
        }

        int cell(int sheet, int i, int v) {
            if (sheet < 0 || sheet > 3) {
                return -2;
            }
            if (sheets[sheet] == null) {
                return -11;
            }
            if (i < 0 || i >= sheets[sheet].length) {
                return -12;
            }
            sheets[sheet][i] = sorts[sheet] == 0 ? (byte) v : sorts[sheet] == 1 ? (short) v : v;
            return 1;
        }

        int copy(int sheet, int i, int other, int j, int n) {
            if (sheet < 0 || sheet > 3 || other < 0 || other > 3) {
                return -2;
            }
            if (sheets[sheet] == null || sheets[other] == null) {
                return -11;
            }
            if (sorts[sheet] != sorts[other]) {
                return -13;
            }
            if (n < 0 || i < 0 || j < 0 || (long) i + n > sheets[sheet].length
                || (long) j + n > sheets[other].length) {
                return -12;
            }
            int[] were = sheets[sheet].clone();
            for (int k = 0; k < n; k++) {
                sheets[other][j + k] = were[i + k];
            }
            return n;
        }

        int grooms(int sheet, int sort, int from, int n) {
            if (sheet < 0 || sheet > 3 || sort < 0 || sort > 2 || n < 0 || n > 6) {
                return -2;
            }
            int[] row = sheets[sheet];
            if (row == null) {
                return -11;
            }
            if (sorts[sheet] != sort) {
                return -13;
            }
            int came = 0;
            for (int k = 0; k < n; k++) {
                long at = (long) from + 3 * k;
                if (from < 0 || at + 2 >= row.length) {
                    return -12;
                }
                came += groom(row[(int) at], row[(int) at + 1], row[(int) at + 2]) >= 0 ? 1 : 0;
            }
            return came;
        }

        int taken(int groom, int k) {
            String[] lines = {"0", "10", "20", "310", "420", "50"};
            if (k < 0 || k > 5) {
                return -2;
            }
            if (groom < 0 || groom >= state.grooms.size()) {
                return -11;
            }
            G g = state.grooms.get(groom);
            return lines[g.kind].indexOf('0' + k) >= 0 ? g.number : -13;
        }

        int day() {
            return state.day == 999 ? -3 : Integer.bitCount(oneDay(state));
        }

        int image() {
            kept = state.copy();
            return kept.grooms.size();
        }

        int back() {
            if (kept == null) {
                return -3;
            }
            state = kept.copy();
            return state.grooms.size();
        }
    }

    // ------------------------------------------------------------------ random runs

    private static final class Run {
        final int number;
        final Random random;
        final SewnUp x = new SewnUp();
        final Model m = new Model();
        int calls = 0;
        final StringBuilder log = new StringBuilder();

        Run(int number) {
            this.number = number;
            this.random = new Random(7919L * number + 13);
        }

        int pick(int n) {
            return random.nextInt(n);
        }

        /** A number from low to high, now and then a little or far beside. */
        int some(int low, int high) {
            int dice = pick(40);
            if (dice == 0) {
                return low - 1 - pick(3);
            }
            if (dice == 1) {
                return high + 1 + pick(3);
            }
            if (dice == 2) {
                int[] far = {Integer.MIN_VALUE, Integer.MAX_VALUE, 1 << 20, -1000, 100, 255, 256};
                return far[pick(far.length)];
            }
            return low + pick(high - low + 1);
        }

        int edgy(int low, int high) {
            int dice = pick(8);
            return dice == 0 ? low : dice == 1 ? high : some(low, high);
        }

        int groomsNow() {
            return Math.max(1, m.state.grooms.size());
        }

        void due(String call, long got, long want) {
            calls++;
            log.append(call).append(" -> ").append(want).append('\n');
            if (got != want) {
                wrong++;
                if (wrong < 6) {
                    System.out.println("run " + number + ", call " + calls + ": " + call + " answered " + got
                        + ", due is " + want + "\n" + (wrong == 1 ? log.toString() : ""));
                }
            }
        }

        String e(int depth) {
            String[] ones = {"thing", "temper", "number", "day", "coat", "own"};
            int dice = pick(depth <= 0 ? 3 : 13);
            switch (dice) {
                case 0: return String.valueOf(pick(pick(4) == 0 ? 10000 : 12));
                case 1: case 2: return ones[pick(6)];
                case 3: return e(depth - 1) + "+" + e(depth - 1);
                case 4: return e(depth - 1) + "-" + e(depth - 1);
                case 5: return e(depth - 1) + (pick(2) == 0 ? "*" : " * ") + e(depth - 1);
                case 6: return e(depth - 1) + "<" + e(depth - 1);
                case 7: return e(depth - 1) + " = " + e(depth - 1);
                case 8: return e(depth - 1) + " or " + e(depth - 1);
                case 9: return e(depth - 1) + " and " + e(depth - 1);
                case 10: return "not " + e(depth - 1);
                case 11: return "-" + e(depth - 1);
                default: return "(" + e(depth - 1) + ")";
            }
        }

        String text() {
            int depth = pick(4);
            StringBuilder t = new StringBuilder("heats " + e(depth) + ";calms " + e(depth) + " ;\nfeels "
                + e(depth) + "; ");
            String[] bits = {"(", ")", "not ", "-", ";", "12345", "x", "A", "=", " and ", "7", "heats", "*", "+",
                "<", "or", "((((((", "-----", "not not not ", "\t", "\u00e9", "0000"};
            int dice = pick(3);
            for (int k = 0; k < dice; k++) {
                int at = pick(t.length());
                switch (pick(4)) {
                    case 0: t.deleteCharAt(at); break;
                    case 1: t.setLength(at); t.append(' '); break;
                    default: t.insert(at, bits[pick(bits.length)]); break;
                }
            }
            return t.toString();
        }

        void feedText() {
            String t = text();
            if (calls + t.length() > CALLS - 60) {
                return;
            }
            for (int i = 0; i < t.length(); i++) {
                due("feed(" + (int) t.charAt(i) + ")", x.feed(t.charAt(i)), m.feed(t.charAt(i)));
            }
            due("text()", x.text(), m.text());
            int f = some(0, m.texts.size() - 1);
            due("force(" + f + ")", x.force(f), m.force(f));
        }

        void newGroom() {
            int kind = some(0, 5);
            int no = some(0, 9);
            int thing = some(0, 15);
            due("groom(" + kind + "," + no + "," + thing + ")", x.groom(kind, no, thing), m.groom(kind, no, thing));
        }

        void changing() {
            int a = some(0, groomsNow() - 1);
            int b = some(0, groomsNow() - 1);
            switch (pick(6)) {
                case 0: case 1:
                    due("change(" + a + "," + b + ")", x.change(a, b), m.change(a, b));
                    break;
                case 2: case 3:
                    int what = some(0, 4);
                    int v = edgy(0, new int[] {999, 99, 9, 15, 99}[Math.floorMod(what, 5)]);
                    due("set(" + what + "," + a + "," + v + ")", x.set(what, a, v), m.set(what, a, v));
                    break;
                case 4:
                    due("day()", x.day(), m.day());
                    break;
                default:
                    int f = some(0, m.texts.size() - 1);
                    due("force(" + f + ")", x.force(f), m.force(f));
                    break;
            }
        }

        void sheets() {
            int s = some(0, 3);
            int o = some(0, 3);
            int sort = some(0, 2);
            switch (pick(8)) {
                case 0:
                    int want = pick(6) == 0 ? -1 : sort;
                    int n = pick(3) == 0 ? m.state.grooms.size() : edgy(0, 40);
                    due("sheet(" + s + "," + want + "," + n + ")", x.sheet(s, want, n), m.sheet(s, want, n));
                    break;
                case 1: case 2: case 3:
                    int i = edgy(0, pick(3) == 0 ? 39 : 6);
                    int v = pick(4) == 0 ? random.nextInt() : some(0, 15);
                    due("cell(" + s + "," + i + "," + v + ")", x.cell(s, i, v), m.cell(s, i, v));
                    break;
                case 4: case 5:
                    int from = edgy(0, 5);
                    int to = edgy(0, 5);
                    int many = edgy(0, 6);
                    int other = pick(2) == 0 ? s : o;
                    due("copy(" + s + "," + from + "," + other + "," + to + "," + many + ")",
                        x.copy(s, from, other, to, many), m.copy(s, from, other, to, many));
                    break;
                case 6:
                    int at = edgy(0, 12);
                    int g = some(0, 6);
                    due("grooms(" + s + "," + sort + "," + at + "," + g + ")", x.grooms(s, sort, at, g),
                        m.grooms(s, sort, at, g));
                    break;
                default:
                    due("film(" + s + ")", x.film(s), m.film(s));
                    break;
            }
        }

        void asking() {
            int n = edgy(0, 40);
            int one = some(0, groomsNow() - 1);
            switch (pick(9)) {
                case 0: case 1:
                    int t = some(0, 10);
                    due("told(" + one + "," + t + ")", x.told(one, t), m.told(one, t));
                    break;
                case 2:
                    int w = pick(3) == 0 ? some(0, 1) : (1 + pick(2)) * 10 + some(0, groomsNow() - 1);
                    due("run(" + n + "," + w + ")", x.run(n, w), m.run(n, w));
                    break;
                case 3:
                    int r = some(0, 4);
                    due("rings(" + r + ")", x.rings(r), m.rings(r));
                    due("ring(" + one + ")", x.ring(one), m.ring(one));
                    break;
                case 4:
                    due("from(" + one + ")", x.from(one), m.from(one));
                    int k = some(0, 3);
                    due("keys(" + k + ")", x.keys(k), m.keys(k));
                    break;
                case 5:
                    int c = some(0, 5);
                    due("count(" + c + ")", x.count(c), m.count(c));
                    break;
                case 6:
                    int kind = some(0, 5);
                    due("taken(" + one + "," + kind + ")", x.taken(one, kind), m.taken(one, kind));
                    break;
                case 7:
                    int p = some(0, 1);
                    due("better(" + n + "," + p + ")", x.better(n, p), m.better(n, p));
                    break;
                default:
                    int seed = pick(4) == 0 ? Integer.MAX_VALUE - pick(5) : random.nextInt();
                    int seeds = edgy(1, 20);
                    int part = some(0, 1);
                    due("drawn(" + seed + "," + n + ")", x.drawn(seed, n), m.drawn(seed, n));
                    due("chance(" + seed + "," + seeds + "," + part + ")", x.chance(seed, seeds, part),
                        m.chance(seed, seeds, part));
                    break;
            }
        }

        void dear() {
            int n = edgy(0, 10);
            int p = some(0, 1);
            due("best(" + n + "," + p + ")", x.best(n, p), m.best(n, p));
        }

        void telling() {
            int s = some(0, 3);
            if (pick(3) > 0) {
                due("film(" + s + ")", x.film(s), m.film(s));
                if (pick(2) == 0) {
                    changing();
                }
                if (pick(3) == 0) {
                    int i = some(0, groomsNow() - 1);
                    int v = some(0, 99);
                    due("cell(" + s + "," + i + "," + v + ")", x.cell(s, i, v), m.cell(s, i, v));
                }
            }
            for (int k = 0; k < 4; k++) {
                int what = pick(2) == 0 ? some(0, 4) : 10 + 10 * pick(3) + some(0, groomsNow() - 1);
                due("tells(" + s + "," + what + ")", x.tells(s, what), m.tells(s, what));
            }
        }

        void keeping() {
            if (pick(3) == 0) {
                due("image()", x.image(), m.image());
            } else {
                due("back()", x.back(), m.back());
            }
        }

        /** Every number that can be asked for, so that what went wrong unseen is seen. */
        void compareAll() {
            for (int c = 0; c < 6; c++) {
                due("count(" + c + ")", x.count(c), m.count(c));
            }
            for (int g = 0; g < m.state.grooms.size(); g++) {
                for (int w = 0; w < 8; w++) {
                    due("told(" + g + "," + w + ")", x.told(g, w), m.told(g, w));
                }
            }
        }

        void go() {
            int first = pick(7);
            for (int k = 0; k < first; k++) {
                newGroom();
            }
            if (number % 3 != 0) {
                feedText();
            }
            while (calls < CALLS - 60) {
                int dice = pick(100);
                if (dice < 4) {
                    newGroom();
                } else if (dice < 26) {
                    changing();
                } else if (dice < 44) {
                    sheets();
                } else if (dice < 76) {
                    asking();
                } else if (dice < 78) {
                    dear();
                } else if (dice < 92) {
                    telling();
                } else if (dice < 97) {
                    keeping();
                } else if (dice < 99) {
                    int letter = some(0, 255);
                    due("feed(" + letter + ")", x.feed(letter), m.feed(letter));
                } else {
                    feedText();
                }
            }
            compareAll();
        }
    }

    /** Texts alone: one object reads a few, and each is forced and told of at once. */
    private static void readTexts() {
        for (int k = 0; k < 3000; k++) {
            Run run = new Run(100000 + k);
            for (int g = 0; g < 3; g++) {
                run.newGroom();
            }
            run.due("change(0,1)", run.x.change(0, 1), run.m.change(0, 1));
            run.feedText();
            run.feedText();
            for (int g = 0; g < 3; g++) {
                for (int what = 8; what <= 10; what++) {
                    run.due("told(" + g + "," + what + ")", run.x.told(g, what), run.m.told(g, what));
                }
            }
        }
    }

    public static void main(String[] args) {
        for (int k = 0; k < RUNS; k++) {
            new Run(k).go();
        }
        readTexts();
        System.out.println(wrong == 0 ? "all answers are the model's" : wrong + " answers are not the model's");
        if (wrong != 0) {
            System.exit(1);
        }
    }
}
