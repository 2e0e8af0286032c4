import java.math.BigInteger;
import java.util.ArrayList;
import java.util.Comparator;
import java.util.List;
import java.util.regex.Matcher;
import java.util.regex.Pattern;

/**
 * The document told a second time, in another way: each word of it as a search through all that could be,
 * with Java's whole library. Only for tests; it is slow and makes as many objects as it likes.
 */
final class Model {
    private static final String[] NAMES = {"person", "lord", "boy", "widow", "sunday", "starched", "heir"};
    private static final Pattern TOKEN = Pattern.compile("[a-z]+|[0-9]+|;| +|.", Pattern.DOTALL);

    /** One of PEOPLE; the kinds stand under one another as in the document. */
    static class Person {
        int worth = 4;
        int brings(World w) { return worth; }
        int fades(World w) { return 1; }
    }

    static class Lord extends Person {
        @Override int brings(World w) { return super.brings(w) / 2; }
        @Override int fades(World w) { return 0; }
    }

    static class Boy extends Person {
        @Override int brings(World w) { return super.brings(w) + 2; }
        @Override int fades(World w) { return super.fades(w) + 1; }
    }

    static class Widow extends Boy {
        @Override int brings(World w) { return super.brings(w) / 2; }
        @Override int fades(World w) { return super.fades(w) - 1; }
    }

    static final class Sunday extends Widow {
        @Override int brings(World w) { return super.brings(w) + (w.turn % 7 == 6 ? 9 : 0); }
    }

    static final class Starched extends Person {
        @Override int brings(World w) { return w.damp >= 5 ? super.brings(w) : 0; }
        @Override int fades(World w) { return Math.max(0, 3 - w.damp / 3); }
    }

    static final class Heir extends Lord {
        @Override int brings(World w) {
            int me = w.people.indexOf(this);
            int close = 0;
            for (int p = 0; p < w.people.size(); p++) {
                if (p != me && w.kin[me][p] >= 10) {
                    close++;
                }
            }
            return super.brings(w) + close;
        }
    }

    private static final Class<?>[] CLASSES = {
        Person.class, Lord.class, Boy.class, Widow.class, Sunday.class, Starched.class, Heir.class};

    static Person born(int kind, int worth) {
        Person p;
        switch (kind) {
            case 0: p = new Person(); break;
            case 1: p = new Lord(); break;
            case 2: p = new Boy(); break;
            case 3: p = new Widow(); break;
            case 4: p = new Sunday(); break;
            case 5: p = new Starched(); break;
            default: p = new Heir(); break;
        }
        p.worth = worth;
        return p;
    }

    static int kindOf(Person p) {
        for (int k = 0; k < 7; k++) {
            if (p.getClass() == CLASSES[k]) {
                return k;
            }
        }
        throw new IllegalStateException();
    }

    /** All that an image keeps. */
    static final class World {
        int damp = 3;
        int[] list = new int[6];
        int kept = -1;
        List<Person> people = new ArrayList<>();
        int[][] kin = new int[8][8];
        int turn;
        int z = 1;
        int[] spots = {-1, -1, -1, -1, -1, -1, -1, -1, -1, -1};

        World twin() {
            World w = new World();
            w.damp = damp;
            w.list = list.clone();
            w.kept = kept;
            for (Person p : people) {
                w.people.add(born(kindOf(p), p.worth));
            }
            for (int a = 0; a < 8; a++) {
                w.kin[a] = kin[a].clone();
            }
            w.turn = turn;
            w.z = z;
            w.spots = spots.clone();
            return w;
        }

        int size() { return people.size(); }

        List<Integer> in() {
            List<Integer> in = new ArrayList<>();
            for (int p = 0; p < size(); p++) {
                if ((list[turn % 6] & 1 << p) != 0 || p == kept) {
                    in.add(p);
                }
            }
            return in;
        }

        void pass() {
            World was = twin();
            List<Integer> in = was.in();
            for (int a = 0; a < size(); a++) {
                for (int b = 0; b < size(); b++) {
                    if (a == b) {
                        continue;
                    }
                    Person p = was.people.get(a);
                    Person q = was.people.get(b);
                    if (in.contains(a) && in.contains(b)) {
                        int more = Math.min(p.brings(was), q.brings(was)) + was.damp;
                        kin[a][b] = Math.min(999, was.kin[a][b] + more);
                    } else {
                        int less = Math.max(p.fades(was), q.fades(was));
                        kin[a][b] = Math.max(0, was.kin[a][b] - less);
                    }
                }
            }
            kept = in.isEmpty() ? -1 : in.get(in.size() - 1);
            turn = Math.min(99999, turn + 1);
        }

        World behind(int n) {
            World w = twin();
            for (int k = 0; k < n; k++) {
                w.pass();
            }
            return w;
        }

        int to(int p) {
            int sum = 0;
            for (int q = 0; q < size(); q++) {
                sum += q == p ? 0 : kin[p][q];
            }
            return sum;
        }

        int all() {
            int sum = 0;
            for (int p = 0; p < size(); p++) {
                sum += to(p);
            }
            return sum / 2;
        }

        /** Fewest steps between all, by Floyd and Warshall; 99 for none. */
        int[][] far(int v) {
            int n = size();
            int[][] d = new int[n][n];
            for (int a = 0; a < n; a++) {
                for (int b = 0; b < n; b++) {
                    d[a][b] = a == b ? 0 : kin[a][b] >= v ? 1 : 99;
                }
            }
            for (int c = 0; c < n; c++) {
                for (int a = 0; a < n; a++) {
                    for (int b = 0; b < n; b++) {
                        d[a][b] = Math.min(d[a][b], d[a][c] + d[c][b]);
                    }
                }
            }
            return d;
        }

        int clan(int p, int v) {
            int set = 0;
            int[][] d = far(v);
            for (int q = 0; q < size(); q++) {
                if (d[p][q] < 99) {
                    set += 1 << q;
                }
            }
            return set;
        }

        int clans(int v) {
            return (int) java.util.stream.IntStream.range(0, size()).map(p -> clan(p, v)).distinct().count();
        }

        int greatest() {
            int g = 0;
            for (int a = 0; a < size(); a++) {
                for (int b = 0; b < a; b++) {
                    g = Math.max(g, kin[a][b]);
                }
            }
            return g;
        }

        void iron(int p) {
            for (int q = 0; q < 8; q++) {
                kin[p][q] = 0;
                kin[q][p] = 0;
            }
        }
    }

    static final class Finding extends RuntimeException {
        private static final long serialVersionUID = 1L;
        final int code;
        Finding(int code) {
            super(null, null, false, false);
            this.code = code;
        }
    }

    static final class Fault extends RuntimeException {
        private static final long serialVersionUID = 1L;
        final int at;
        Fault(int at) {
            super(null, null, false, false);
            this.at = at;
        }
    }

    World w = new World();
    World image;
    StringBuilder tape = new StringBuilder();
    int[][] sheets = new int[4][];
    int[] bits = new int[4];
    int[] found = new int[7];

    /** What a call is due to answer. */
    long call(String name, int... a) {
        try {
            return answer(name, a);
        } catch (Finding f) {
            found[Due.LOW - f.code]++;
            return f.code;
        }
    }

    private static void need(boolean holds, int code) {
        if (!holds) {
            throw new Finding(code);
        }
    }

    private static void range(int v, int lo, int hi) { need(lo <= v && v <= hi, Due.BEYOND); }

    private void there(int p) { range(p, 0, w.size() - 1); }

    private void two(int a, int b) {
        there(a);
        there(b);
        need(a != b, Due.BEYOND);
    }

    private void sheetThere(int s) {
        range(s, 0, 3);
        need(sheets[s] != null, Due.MISSING);
    }

    private static int none() { throw new Finding(Due.NONE); }

    private static int beyond() { throw new Finding(Due.BEYOND); }

    private long answer(String name, int[] a) {
        switch (name) {
            case "damp": { range(a[0], 0, 9); int was = w.damp; w.damp = a[0]; return was; }
            case "list": {
                range(a[0], 0, 5); range(a[1], 0, 255);
                int was = w.list[a[0]]; w.list[a[0]] = a[1]; return was;
            }
            case "listed": range(a[0], 0, 5); return w.list[a[0]];
            case "person":
                range(a[0], 0, 6); need(w.size() < 8, Due.FULL);
                w.people.add(born(a[0], 4)); return w.size() - 1;
            case "of": there(a[0]); return of(a[0], a[1]);
            case "change": there(a[0]); range(a[1], 0, 1); range(a[2], 0, a[1] == 0 ? 6 : 99); return change(a);
            case "kin": two(a[0], a[1]); return w.kin[a[0]][a[1]];
            case "make": {
                two(a[0], a[1]); range(a[2], 0, 999);
                int was = w.kin[a[0]][a[1]];
                w.kin[a[0]][a[1]] = a[2]; w.kin[a[1]][a[0]] = a[2]; return was;
            }
            case "iron": { there(a[0]); int was = w.to(a[0]); w.iron(a[0]); return was; }
            case "go": range(a[0], 1, 60); need(w.turn + a[0] <= 99999, Due.STATE); w = w.behind(a[0]); return w.all();
            case "now": range(a[0], 0, 5); return now(a[0]);
            default: return answerNear(name, a);
        }
    }

    private long of(int p, int what) {
        switch (what) {
            case 0: return kindOf(w.people.get(p));
            case 1: return w.people.get(p).worth;
            case 2: return w.people.get(p).brings(w);
            case 3: return w.people.get(p).fades(w);
            case 4: return w.to(p);
            case 5:
                for (int k = 999; k >= 0; k--) {
                    for (int q = 0; q < w.size(); q++) {
                        if (q != p && w.kin[p][q] == k) {
                            return q;
                        }
                    }
                }
                return -1;
            default: return beyond();
        }
    }

    private long change(int[] a) {
        Person p = w.people.get(a[0]);
        if (a[1] == 0) {
            w.people.set(a[0], born(a[2], p.worth));
            return kindOf(p);
        }
        int was = p.worth;
        p.worth = a[2];
        return was;
    }

    private long now(int what) {
        switch (what) {
            case 0: return w.turn;
            case 1: return w.all();
            case 2: return w.in().stream().mapToInt(p -> 1 << p).sum();
            case 3: return w.kept;
            case 4: return w.damp;
            default:
                for (int two = 0; two < 64; two++) {
                    int a = two / 8;
                    int b = two % 8;
                    if (a < b && b < w.size() && w.kin[a][b] == w.greatest()) {
                        return two;
                    }
                }
                return -1;
        }
    }

    private long answerNear(String name, int[] a) {
        switch (name) {
            case "steps": {
                two(a[0], a[1]); range(a[2], 1, 999);
                int d = w.far(a[2])[a[0]][a[1]]; return d < 99 ? d : none();
            }
            case "clans": range(a[0], 1, 999); return w.clans(a[0]);
            case "clan": there(a[0]); range(a[1], 1, 999); return w.clan(a[0], a[1]);
            case "tie":
                two(a[0], a[1]);
                for (int v = 999; v >= 1; v--) {
                    if ((w.clan(a[0], v) & 1 << a[1]) != 0) {
                        return v;
                    }
                }
                return none();
            case "ahead": two(a[0], a[1]); range(a[2], 0, 60); return w.behind(a[2]).kin[a[0]][a[1]];
            case "when": two(a[0], a[1]); range(a[2], 0, 999); return wait(u -> u.kin[a[0]][a[1]] >= a[2]);
            case "first": range(a[0], 0, 999); return wait(u -> u.size() >= 2 && u.greatest() >= a[0]);
            case "one": range(a[0], 1, 999); return wait(u -> u.clans(a[0]) < 2);
            default: return answerChoice(name, a);
        }
    }

    private long wait(java.util.function.Predicate<World> so) {
        World u = w.twin();
        for (int n = 0; n <= 100; n++) {
            if (so.test(u)) {
                return n;
            }
            u.pass();
        }
        return none();
    }

    private List<Integer> subsetsFewestFirst() {
        List<Integer> sets = new ArrayList<>();
        for (int set = 0; set < 1 << w.size(); set++) {
            sets.add(set);
        }
        sets.sort(Comparator.comparingInt((Integer s) -> Integer.bitCount(s)).thenComparingInt(s -> s));
        return sets;
    }

    private long answerChoice(String name, int[] a) {
        switch (name) {
            case "put":
                two(a[0], a[1]); range(a[2], 0, 999); range(a[3], 0, 12);
                for (int set : subsetsFewestFirst()) {
                    World u = w.twin();
                    u.list[u.turn % 6] = set;
                    if (u.behind(a[3]).kin[a[0]][a[1]] >= a[2]) {
                        return set;
                    }
                }
                return none();
            case "apart":
                two(a[0], a[1]); range(a[2], 0, 999); range(a[3], 0, 12);
                for (int set : subsetsFewestFirst()) {
                    World u = w.twin();
                    for (int i = 0; i < 6; i++) {
                        u.list[i] = u.list[i] & (255 ^ set);
                    }
                    if (u.behind(a[3]).kin[a[0]][a[1]] <= a[2]) {
                        return set;
                    }
                }
                return none();
            case "kindFor": {
                there(a[0]); range(a[1], 0, 40);
                int[] sums = new int[7];
                for (int k = 0; k < 7; k++) {
                    sums[k] = ofKind(a[0], k).behind(a[1]).to(a[0]);
                }
                int best = java.util.Arrays.stream(sums).max().getAsInt();
                for (int k = 0; k < 7; k++) {
                    if (sums[k] == best) {
                        return k;
                    }
                }
                throw new IllegalStateException();
            }
            case "dampFor":
                two(a[0], a[1]); range(a[2], 0, 999); range(a[3], 0, 40);
                for (int d = 0; d <= 9; d++) {
                    World u = w.twin();
                    u.damp = d;
                    if (u.behind(a[3]).kin[a[0]][a[1]] >= a[2]) {
                        return d;
                    }
                }
                return none();
            case "divorce": {
                range(a[0], 1, 999); need(w.size() > 0, Due.NONE);
                int[] left = new int[w.size()];
                for (int p = 0; p < w.size(); p++) {
                    World u = w.twin();
                    u.iron(p);
                    left[p] = u.clans(a[0]);
                }
                int best = java.util.Arrays.stream(left).max().getAsInt();
                int p = 0;
                while (left[p] != best) {
                    p++;
                }
                return p;
            }
            default: return answerWent(name, a);
        }
    }

    private World ofKind(int p, int kind) {
        World u = w.twin();
        u.people.set(p, born(kind, u.people.get(p).worth));
        return u;
    }

    private List<Integer> fitting(int[] a) {
        sheetThere(a[0]);
        range(a[1], 0, 5);
        two(a[2], a[3]);
        List<Integer> sets = new ArrayList<>();
        for (int set = 0; set < 256; set++) {
            World u = w.twin();
            u.list[a[1]] = set;
            boolean fits = true;
            for (int k = 0; k < sheets[a[0]].length && fits; k++) {
                int told = sheets[a[0]][k];
                fits = told == -1 || told == u.kin[a[2]][a[3]];
                u.pass();
            }
            if (fits) {
                sets.add(set);
            }
        }
        return sets;
    }

    private long answerWent(String name, int[] a) {
        switch (name) {
            case "fits": return fitting(a).size();
            case "went": { List<Integer> sets = fitting(a); return sets.isEmpty() ? none() : sets.get(0); }
            case "kinds": {
                sheetThere(a[0]); there(a[1]);
                int set = 0;
                for (int kind = 0; kind < 7; kind++) {
                    boolean fits = true;
                    for (int k = 0; k < sheets[a[0]].length; k++) {
                        int told = sheets[a[0]][k];
                        fits &= told == -1 || told == ofKind(a[1], kind).behind(k).to(a[1]);
                    }
                    set += fits ? 1 << kind : 0;
                }
                return set;
            }
            case "washes":
                range(a[0], 1, 20); need(w.turn + a[0] <= 99999, Due.STATE);
                for (int k = 0; k < a[0]; k++) {
                    w.z = (int) (w.z * 1103515245L + 12345L);
                    w.list[w.turn % 6] = (int) (((w.z & 0xffffffffL) >> 8) % 256);
                    w.pass();
                }
                return w.all();
            case "odds": {
                there(a[0]); range(a[1], 0, 40); range(a[2], 0, 1);
                int without = 0;
                for (int set = 0; set < 256; set++) {
                    without += (set & 1 << a[0]) == 0 ? 1 : 0;
                }
                BigInteger above = BigInteger.valueOf(without).pow(a[1]);
                BigInteger below = BigInteger.valueOf(256).pow(a[1]);
                BigInteger both = above.gcd(below);
                return (a[2] == 0 ? above : below).divide(both).longValueExact();
            }
            case "seed": { int was = w.z; w.z = a[0]; return was; }
            default: return answerText(name, a);
        }
    }

    private long answerText(String name, int[] a) {
        switch (name) {
            case "feed":
                range(a[1], 1, 4); need(tape.length() + a[1] <= 120, Due.FULL);
                for (int k = a[1] - 1; k >= 0; k--) {
                    tape.append((char) (a[0] >> 8 * k & 255));
                }
                return tape.length();
            case "wipe": { int had = tape.length(); tape.setLength(0); return had; }
            case "text": {
                World u = w.twin();
                String text = tape.toString();
                tape.setLength(0);
                try {
                    int items = new Text(text, u).items();
                    w = u;
                    return items;
                } catch (Fault f) {
                    return -1 - f.at;
                }
            }
            default: return answerSheets(name, a);
        }
    }

    private static final class Text {
        final List<String> tokens = new ArrayList<>();
        final List<Integer> places = new ArrayList<>();
        final World u;
        int at;

        Text(String text, World u) {
            this.u = u;
            Matcher m = TOKEN.matcher(text);
            while (m.find()) {
                if (!m.group().startsWith(" ")) {
                    tokens.add(m.group());
                    places.add(m.start());
                }
            }
            tokens.add("");
            places.add(text.length());
        }

        String token() { return tokens.get(at); }

        boolean took(String token) {
            if (!token().equals(token)) {
                return false;
            }
            at++;
            return true;
        }

        Fault fault() { return new Fault(places.get(at)); }

        int number(int most) {
            if (!token().matches("[0-9]+") || new BigInteger(token()).compareTo(BigInteger.valueOf(most)) > 0) {
                throw fault();
            }
            int v = Integer.parseInt(new BigInteger(token()).toString());
            at++;
            return v;
        }

        int items() {
            int items = 0;
            do {
                item();
                items++;
            } while (took(";"));
            if (!took("")) {
                throw fault();
            }
            return items;
        }

        void item() {
            for (int kind = 0; kind < 7; kind++) {
                if (token().equals(NAMES[kind])) {
                    person(kind);
                    return;
                }
            }
            if (took("list")) {
                int i = number(5);
                u.list[i] = number(255);
            } else if (took("damp")) {
                u.damp = number(9);
            } else {
                throw fault();
            }
        }

        void person(int kind) {
            if (u.size() == 8) {
                throw fault();
            }
            at++;
            int worth = took("worth") ? number(99) : 4;
            if (took("kin")) {
                int other = number(u.size() - 1);
                int kin = number(999);
                u.kin[u.size()][other] = kin;
                u.kin[other][u.size()] = kin;
            }
            u.people.add(born(kind, worth));
        }
    }

    private long answerSheets(String name, int[] a) {
        switch (name) {
            case "hold": range(a[0], 0, 9); range(a[1], -1, w.size() - 1); w.spots[a[0]] = a[1]; return 1;
            case "as": {
                range(a[0], 0, 9); range(a[1], 0, 6);
                int held = w.spots[a[0]];
                need(held >= 0, Due.MISSING);
                need(CLASSES[a[1]].isInstance(w.people.get(held)), Due.KIND);
                return held;
            }
            case "sheet":
                range(a[0], 0, 3); need(List.of(0, 8, 16, 32).contains(a[1]), Due.BEYOND);
                need(a[2] >= 0, Due.SIZE); need(a[2] <= 40, Due.BEYOND);
                bits[a[0]] = a[1];
                sheets[a[0]] = a[1] == 0 ? null : new int[a[2]];
                return a[1] == 0 ? 0 : a[2];
            case "write": {
                sheetThere(a[0]); range(a[1], 0, sheets[a[0]].length - 1);
                int away = 32 - bits[a[0]];
                sheets[a[0]][a[1]] = a[2] << away >> away;
                return 1;
            }
            case "copy": return copy(a);
            case "load": {
                sheetThere(a[0]);
                int n = 0;
                for (int v : sheets[a[0]]) {
                    if (n == 6 || v < 0 || v > 255) {
                        break;
                    }
                    w.list[n++] = v;
                }
                return n;
            }
            case "judge": {
                sheetThere(a[0]); there(a[1]);
                for (int i = 0; i < sheets[a[0]].length; i++) {
                    if (i >= w.size() || sheets[a[0]][i] != (i == a[1] ? 0 : w.kin[a[1]][i])) {
                        return i + 1;
                    }
                }
                return 0;
            }
            default: return answerImages(name, a);
        }
    }

    private long copy(int[] a) {
        range(a[0], 0, 3);
        range(a[2], 0, 3);
        need(sheets[a[0]] != null && sheets[a[2]] != null, Due.MISSING);
        need(bits[a[0]] == bits[a[2]], Due.KIND);
        need(a[1] >= 0 && a[3] >= 0 && a[4] >= 0, Due.BEYOND);
        need((long) a[1] + a[4] <= sheets[a[0]].length, Due.BEYOND);
        need((long) a[3] + a[4] <= sheets[a[2]].length, Due.BEYOND);
        int[] were = sheets[a[0]].clone();
        for (int k = 0; k < a[4]; k++) {
            sheets[a[2]][a[3] + k] = were[a[1] + k];
        }
        return a[4];
    }

    private long answerImages(String name, int[] a) {
        switch (name) {
            case "image": image = w.twin(); return 1;
            case "undo": need(image != null, Due.NONE); w = image.twin(); return w.turn;
            case "tear": { int was = image == null ? 0 : 1; image = null; return was; }
            case "count": return count(a[0]);
            case "status":
                range(a[0], -1, 6);
                return a[0] >= 0 ? found[a[0]] : java.util.Arrays.stream(found).sum();
            default: throw new IllegalStateException(name);
        }
    }

    private long count(int what) {
        switch (what) {
            case 0: return w.turn;
            case 1: return w.size();
            case 2: return w.clans(1);
            case 3: return w.all();
            case 4: return w.greatest();
            case 5: return tape.length();
            case 6: return w.z;
            case 7: return java.util.Arrays.stream(w.spots).filter(p -> p >= 0).count();
            default: return beyond();
        }
    }
}
