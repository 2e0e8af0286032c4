import java.lang.reflect.Method;
import java.util.ArrayList;
import java.util.Comparator;
import java.util.List;

/** A class of tests, each of which stands for one sentence of the document. */
abstract class Sentences extends Promises {
    private String sentence = "";

    @Override final String told() { return sentence; }

    static List<Method> testsOf(Class<?> tests) {
        List<Method> all = new ArrayList<>();
        for (Method m : tests.getDeclaredMethods()) {
            if (m.getAnnotation(Says.class) != null) {
                all.add(m);
            }
        }
        all.sort(Comparator.comparingInt((Method m) -> m.getAnnotation(Says.class).promise())
            .thenComparing(Method::getName));
        return all;
    }

    final void askAll() throws Exception {
        for (Method test : testsOf(getClass())) {
            Says says = test.getAnnotation(Says.class);
            sentence = says.promise() + " " + test.getName() + " \"" + says.value() + "\": ";
            int before = asked();
            test.invoke(this);
            so("it asks something", asked() > before);
        }
        sentence = "";
        end();
    }

    /** An object of some people at a TURN, all as at first else. */
    static MangleKin atTurn(int turn, int... kinds) {
        MangleKin x = with(kinds);
        for (int left = turn; left > 0; left -= 60) {
            x.go(Math.min(60, left));
        }
        return x;
    }

    /** Two lords of worth 2, who don't fade, and no damp: each TURN in which both go in makes KIN 1 more. */
    static MangleKin lords() {
        MangleKin x = with(1, 1);
        x.change(0, 1, 2);
        x.change(1, 1, 2);
        x.damp(0);
        return x;
    }

    /** A full house: eight of one kind. */
    static MangleKin eight(int kind) { return with(kind, kind, kind, kind, kind, kind, kind, kind); }

    static String blanks(int n) { return " ".repeat(n); }
}
