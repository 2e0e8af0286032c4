import java.lang.reflect.Method;
import java.util.Random;

/** Long runs of drawn calls, each answered by the class and by the model. */
public final class ModelTest {
    private static final int RUNS = 1500;
    /** An object is used for at most 512 calls; a step asks some 50 at most, and the end 8. */
    private static final int CALLS = 440;
    private static final String[] KINDS = {"person", "lord", "boy", "widow", "sunday", "starched", "heir"};
    private static final int[] EDGES = {
        Integer.MIN_VALUE, Integer.MIN_VALUE + 1, -1000001, -2, -1, 0, 1, 2, 3, 4, 5, 6, 7, 8, 9, 10, 11, 12, 13, 20,
        21, 31, 32, 33, 39, 40, 41, 60, 61, 99, 100, 255, 256, 998, 999, 1000, 65535, 99999, Integer.MAX_VALUE};

    private final Random random;
    private final MangleKin real = new MangleKin();
    private final Model model = new Model();
    private final Due due;
    private final int run;
    private int calls;

    private ModelTest(int run, Due due) {
        this.run = run;
        this.random = new Random(run);
        this.due = due;
    }

    public static void main(String[] args) throws Exception {
        Due due = new Due();
        for (int run = 0; run < RUNS; run++) {
            new ModelTest(run, due).run();
        }
        due.end("ModelTest");
    }

    private void run() throws Exception {
        if (random.nextInt(4) > 0) {
            int people = random.nextInt(9);
            for (int p = 0; p < people; p++) {
                ask("person", random.nextInt(7));
                ask("change", p, 1, random.nextInt(100));
            }
            for (int i = 0; i < 6; i++) {
                ask("list", i, random.nextInt(256));
            }
        }
        while (calls < CALLS) {
            step();
        }
        for (int which = -1; which <= 6; which++) {
            ask("status", which);
        }
    }

    private void ask(String name, int... a) throws Exception {
        calls++;
        Class<?>[] types = new Class<?>[a.length];
        Object[] values = new Object[a.length];
        StringBuilder told = new StringBuilder("run " + run + ": " + name + "(");
        for (int k = 0; k < a.length; k++) {
            types[k] = int.class;
            values[k] = a[k];
            told.append(k == 0 ? "" : ", ").append(a[k]);
        }
        Method method = MangleKin.class.getMethod(name, types);
        long got = ((Number) method.invoke(real, values)).longValue();
        due.due(told.append(")").toString(), got, model.call(name, a));
    }

    /** Now and then an edge in place of what was drawn. */
    private int or(int v) { return random.nextInt(25) == 0 ? EDGES[random.nextInt(EDGES.length)] : v; }

    private int upTo(int most) { return or(random.nextInt(most + 1)); }

    private int who() {
        int people = model.w.size();
        return or(people == 0 ? 0 : random.nextInt(people));
    }

    private int other(int a) {
        int b = who();
        return a == b ? who() : b;
    }

    private int kin() {
        int[] tops = {3, 30, 120, 999};
        return upTo(tops[random.nextInt(tops.length)]);
    }

    private void step() throws Exception {
        int a = who();
        int b = other(a);
        switch (random.nextInt(32)) {
            case 0: ask("damp", upTo(9)); break;
            case 1: ask("list", upTo(5), upTo(255)); ask("listed", upTo(5)); break;
            case 2: if (random.nextInt(4) == 0) { ask("person", upTo(6)); } else { ask("seed", or(random.nextInt())); } break;
            case 3: ask("of", a, upTo(5)); ask("of", b, 2); ask("of", a, 3); break;
            case 4: ask("change", a, upTo(1), upTo(6)); ask("change", a, 1, upTo(99)); break;
            case 5: ask("kin", a, b); ask("of", a, 5); ask("now", 5); break;
            case 6: ask("make", a, b, kin()); break;
            case 7: if (random.nextInt(3) == 0) { ask("iron", a); } break;
            case 8: ask("go", 1 + random.nextInt(random.nextInt(5) == 0 ? 60 : 3)); break;
            case 9: ask("go", or(1)); ask("now", upTo(5)); break;
            case 10: ask("steps", a, b, kin()); break;
            case 11: ask("clans", kin()); break;
            case 12: ask("clan", a, kin()); break;
            case 13: ask("tie", a, b); break;
            case 14: ask("ahead", a, b, upTo(60)); break;
            case 15: ask("when", a, b, kin()); break;
            case 16: ask("first", kin()); break;
            case 17: ask("one", kin()); break;
            case 18: ask("put", a, b, near(a, b, kin()), upTo(12)); break;
            case 19: ask("apart", a, b, near(a, b, kin()), upTo(12)); break;
            case 20: ask("kindFor", a, upTo(40)); break;
            case 21: ask("dampFor", a, b, near(a, b, kin()), upTo(40)); break;
            case 22: ask("divorce", kin()); break;
            case 23: tellFits(a, b); break;
            case 24: tellKinds(a); break;
            case 25: ask("washes", 1 + random.nextInt(3)); ask("washes", or(1)); break;
            case 26: ask("odds", a, upTo(40), upTo(1)); break;
            case 27: tellText(); break;
            case 28: ask("hold", upTo(9), random.nextInt(4) == 0 ? -1 : a); ask("as", upTo(9), upTo(6)); break;
            case 29: sheets(); break;
            case 30: images(); break;
            default: ask("count", upTo(7)); ask("status", or(random.nextInt(8) - 1)); break;
        }
    }

    /** A value close to KIN of two, where most answers change. */
    private int near(int a, int b, int else_) {
        if (random.nextBoolean() || a < 0 || b < 0 || a >= model.w.size() || b >= model.w.size()) {
            return else_;
        }
        return Math.max(0, Math.min(999, model.w.kin[a][b] + random.nextInt(41) - 20));
    }

    /** Writes what would come of some set, with gaps, and asks which sets fit. */
    private void tellFits(int a, int b) throws Exception {
        int s = random.nextInt(4);
        int n = random.nextInt(9);
        int i = random.nextInt(6);
        boolean good = a >= 0 && b >= 0 && a < model.w.size() && b < model.w.size();
        Model.World u = model.w.twin();
        u.list[i] = random.nextInt(256);
        ask("sheet", s, random.nextBoolean() ? 16 : 32, n);
        for (int k = 0; k < n; k++) {
            int v = good ? u.kin[a][b] : 0;
            ask("write", s, k, random.nextInt(3) == 0 ? -1 : random.nextInt(12) == 0 ? kin() : v);
            u.pass();
        }
        ask("fits", or(s), or(i), a, b);
        ask("went", s, i, a, b);
    }

    private void tellKinds(int a) throws Exception {
        int s = random.nextInt(4);
        int n = random.nextInt(9);
        boolean good = a >= 0 && a < model.w.size();
        Model.World u = model.w.twin();
        if (good) {
            u.people.set(a, Model.born(random.nextInt(7), u.people.get(a).worth));
        }
        ask("sheet", s, random.nextBoolean() ? 16 : 32, n);
        for (int k = 0; k < n; k++) {
            ask("write", s, k, random.nextInt(3) == 0 ? -1 : good ? u.to(a) : 0);
            u.pass();
        }
        ask("kinds", or(s), a);
    }

    private void sheets() throws Exception {
        int s = upTo(3);
        int t = random.nextBoolean() ? s : upTo(3);
        int[] bits = {0, 8, 8, 16, 16, 32};
        switch (random.nextInt(6)) {
            case 0: ask("sheet", s, or(bits[random.nextInt(bits.length)]), upTo(40)); break;
            case 1: ask("write", s, upTo(12), or(random.nextInt(300) - 20)); break;
            case 2: copies(s, t); break;
            case 3: ask("load", s); for (int i = 0; i < 6; i++) { ask("listed", i); } break;
            default: judge(s, who()); break;
        }
    }

    private void copies(int s, int t) throws Exception {
        int[] bits = {8, 16, 32};
        int one = bits[random.nextInt(3)];
        ask("sheet", t, random.nextInt(5) == 0 ? 8 : one, 4 + random.nextInt(8));
        ask("sheet", s, one, 4 + random.nextInt(8));
        for (int k = 0; k < 6; k++) {
            ask("write", s, k, random.nextInt(100));
        }
        ask("copy", s, upTo(5), t, upTo(5), upTo(5));
        ask("load", t);
        for (int i = 0; i < 6; i++) {
            ask("listed", i);
        }
    }

    private void judge(int s, int a) throws Exception {
        if (s >= 0 && s < 4 && a >= 0 && a < model.w.size() && random.nextBoolean()) {
            int n = random.nextInt(10);
            ask("sheet", s, 16, n);
            for (int k = 0; k < n; k++) {
                int v = k < 8 && k != a ? model.w.kin[a][k] : 0;
                ask("write", s, k, random.nextInt(10) == 0 ? v + 1 : v);
            }
        }
        ask("judge", s, a);
    }

    private void images() throws Exception {
        switch (random.nextInt(6)) {
            case 0: case 1: ask("image"); break;
            case 2: case 3: ask("undo"); break;
            case 4: ask("tear"); break;
            default: ask("now", upTo(5)); break;
        }
    }

    private void tellText() throws Exception {
        if (random.nextInt(5) == 0) {
            ask("wipe");
        }
        StringBuilder text = new StringBuilder();
        int items = 1 + random.nextInt(4);
        for (int k = 0; k < items; k++) {
            text.append(k == 0 ? "" : ";").append(blanks()).append(item()).append(blanks());
        }
        for (int k = random.nextInt(4) - 2; k > 0; k--) {
            String odd = "az;0 9A\t\u00ff~kin worth";
            int at = random.nextInt(text.length() + 1);
            if (random.nextBoolean() || at == text.length()) {
                text.insert(at, odd.charAt(random.nextInt(odd.length())));
            } else {
                text.deleteCharAt(at);
            }
        }
        int at = 0;
        while (at < text.length()) {
            int n = Math.min(1 + random.nextInt(4), text.length() - at);
            int bytes = random.nextInt();
            for (int k = 0; k < n; k++) {
                bytes = bytes << 8 | text.charAt(at + k);
            }
            ask("feed", bytes, n);
            at += n;
        }
        ask("feed", random.nextInt(), or(0));
        ask("count", 5);
        if (random.nextInt(6) > 0) {
            ask("text");
        }
    }

    private String blanks() { return " ".repeat(Math.max(0, random.nextInt(5) - 2)); }

    private String number(int most) {
        int v = random.nextInt(15) == 0 ? most + 1 : random.nextInt(most + 1);
        return (random.nextInt(4) == 0 ? "" : " ") + (random.nextInt(8) == 0 ? "00" : "") + v + blanks();
    }

    private String item() {
        if (random.nextInt(3) == 0) {
            return "list" + number(5) + " " + number(255);
        }
        if (random.nextInt(4) == 0) {
            return "damp" + number(9);
        }
        StringBuilder item = new StringBuilder(KINDS[random.nextInt(7)]);
        if (random.nextInt(2) == 0) {
            item.append(" worth").append(number(99));
        }
        if (random.nextInt(3) == 0) {
            item.append(" kin").append(number(Math.max(0, model.w.size() - 1))).append(" ").append(number(999));
        }
        return item.toString();
    }
}
