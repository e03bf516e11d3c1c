import java.util.Random;

/** How not, and, or and parentheses join units: questions of two units, one that holds and one that does not. */
public final class JoinsTest {
    private static final Checks CHECKS = new Checks();
    private static final int MOST_BYTES = 120;

    private final Random random;
    private final StringBuilder text = new StringBuilder();
    private int units;

    private JoinsTest(int seed) {
        random = new Random(seed);
    }

    public static void main(String[] args) {
        for (int seed = 0; seed < 20000; seed++) new JoinsTest(seed).compare();
        CHECKS.end("JoinsTest");
    }

    private void compare() {
        boolean holds = question(4);
        if (text.length() > MOST_BYTES) return;
        String asked = text.toString();
        OneMark x = new OneMark();
        x.place(0, 0);
        x.place(0, 1);
        CHECKS.due(asked, Texts.ask(x, asked), holds ? 1 : 0);
        CHECKS.due("count(5) of " + asked, x.count(5), units);
        CHECKS.due("holds " + asked, x.holds(), holds ? 1 : 0);
    }

    private boolean question(int depth) {
        boolean holds = part(depth);
        while (random.nextInt(5) < 2) {
            text.append("or ");
            holds |= part(depth);
        }
        return holds;
    }

    private boolean part(int depth) {
        boolean holds = unit(depth);
        while (random.nextInt(5) < 2) {
            text.append("and ");
            holds &= unit(depth);
        }
        return holds;
    }

    private boolean unit(int depth) {
        int kind = depth == 0 ? 5 : random.nextInt(6);
        if (kind == 0) {
            text.append("not ");
            return !unit(depth - 1);
        }
        if (kind <= 2) {
            text.append('(');
            boolean holds = question(depth - 1);
            text.append(')');
            return holds;
        }
        units++;
        boolean holds = random.nextBoolean();
        text.append(holds ? "even from0" : "even from1");
        return holds;
    }
}
