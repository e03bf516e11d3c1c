import java.util.List;
import java.util.Random;

/** Boards by a fixed seed: each answer of the program against that of the Oracle. */
public final class OracleTest {
    private static final Checks CHECKS = new Checks();

    private OneMark x;
    private Oracle board;
    private final Random random;
    private final String run;

    private OracleTest(int seed) {
        random = new Random(seed);
        run = "seed " + seed + ": ";
    }

    public static void main(String[] args) {
        for (int seed = 0; seed < 900; seed++) new OracleTest(seed).compareBoard(seed);
        for (int seed = 1000; seed < 1250; seed++) new OracleTest(seed).compareQuestions(seed);
        for (int seed = 2000; seed < 2400; seed++) new OracleTest(seed).compareFaults();
        CHECKS.end("OracleTest");
    }

    private void due(String call, long got, long want) {
        CHECKS.due(run + call, got, want);
    }

    /** A board with its changes; the dearer ones are rare. */
    private void make(int mostPlaces, int mostArrows) {
        x = new OneMark();
        board = new Oracle();
        int places = 1 + random.nextInt(mostPlaces);
        int numbers = 1 + random.nextInt(8);
        for (int p = 0; p < places; p++) addPlace(random.nextInt(2), random.nextInt(numbers));
        int tries = random.nextInt(mostArrows * 2);
        int weights = random.nextInt(6);
        for (int i = 0; i < tries && board.arrows.size() < mostArrows; i++) {
            addArrow(random.nextInt(places), random.nextInt(places), random.nextInt(2 * weights + 1) - weights);
        }
        for (int i = random.nextInt(6); i > 0; i--) change();
    }

    /** The board made anew, without what changed on the way to it. */
    private OneMark copied() {
        OneMark made = new OneMark();
        for (int p = 0; p < board.places(); p++) made.place(board.owner.get(p), board.number.get(p));
        for (int[] arrow : board.arrows) made.arrow(arrow[0], arrow[1], arrow[2]);
        return made;
    }

    private void addPlace(int player, int number) {
        due("place", x.place(player, number), board.places());
        board.owner.add(player);
        board.number.add(number);
        board.told.add(null);
    }

    private void addArrow(int from, int to, int weight) {
        int there = find(from, to);
        due("arrow", x.arrow(from, to, weight), there >= 0 ? OneMark.NOT : board.arrows.size());
        if (there < 0) board.arrows.add(new int[] {from, to, weight});
    }

    private int find(int from, int to) {
        for (int a = 0; a < board.arrows.size(); a++) {
            if (board.arrows.get(a)[0] == from && board.arrows.get(a)[1] == to) return a;
        }
        return -1;
    }

    private void change() {
        int p = random.nextInt(board.places());
        int[] told = board.told.get(p);
        if (random.nextInt(3) == 0) {
            due("untell", x.untell(p), told == null ? OneMark.NOT : board.arrows.indexOf(told));
            board.told.set(p, null);
        }
        if (random.nextInt(3) == 0) {
            int player = random.nextInt(2);
            due("give", x.give(p, player), board.owner.set(p, player));
        }
        if (random.nextInt(3) == 0) {
            int number = random.nextInt(8);
            due("set(0)", x.set(0, p, number), board.number.set(p, number));
        }
        if (board.arrows.isEmpty()) return;
        int a = random.nextInt(board.arrows.size());
        int[] arrow = board.arrows.get(a);
        if (random.nextInt(3) == 0) {
            int weight = random.nextInt(11) - 5;
            due("set(1)", x.set(1, a, weight), arrow[2]);
            arrow[2] = weight;
        }
        if (random.nextInt(2) == 0) {
            int[] before = board.told.set(arrow[0], arrow);
            due("tell", x.tell(a), before == null ? -1 : board.arrows.indexOf(before));
        } else if (random.nextInt(3) == 0) {
            if (board.told.get(arrow[0]) == arrow) board.told.set(arrow[0], null);
            board.arrows.remove(a);
            due("cut", x.cut(a), board.arrows.size());
        }
    }

    private void compareBoard(int seed) {
        boolean large = seed % 30 == 0;
        make(large ? 8 : 5, large ? 20 : 10);
        compareCounts();
        for (int player = 0; player < 2; player++) {
            for (int i = 0; i < 4; i++) compareForce(player);
            due("judged(" + player + ")", x.judged(player), board.judged(player));
            for (int p = 0; p < board.places(); p++) compareTold(player, p);
        }
        due("won()", x.won(), board.wonBy(0));
        for (int p = 0; p < board.places(); p++) comparePlace(p);
    }

    private void compareCounts() {
        due("count(0)", x.count(0), board.places());
        due("count(1)", x.count(1), board.arrows.size());
        due("count(2)", x.count(2), board.owner.stream().filter(o -> o == 0).count());
        due("count(3)", x.count(3), board.told.stream().filter(t -> t != null).count());
        for (int a = 0; a < board.places(); a++) {
            for (int b = 0; b < board.places(); b++) due("from", x.from(a, b), find(a, b));
        }
    }

    private void compareForce(int player) {
        int set = random.nextInt(board.all() + 1);
        int two = random.nextInt(board.all() + 1);
        String call = "(" + player + ", " + set;
        due("forced" + call, x.forced(player, set), board.forced(player, set));
        due("kept" + call, x.kept(player, set), board.kept(player, set));
        due("again" + call, x.again(player, set), board.again(player, set));
        due("both" + call + ", " + two, x.both(player, set, two), board.both(player, set, two));
        int p = random.nextInt(board.places());
        due("steps" + call + ", " + p, x.steps(player, set, p), board.steps(player, set, p));
        int[] rate = board.rate(player, set, p);
        due("rate" + call + ", " + p + ", 0", x.rate(player, set, p, 0), rate[0]);
        due("rate" + call + ", " + p + ", 1", x.rate(player, set, p, 1), rate[1]);
    }

    private void compareTold(int player, int p) {
        String call = "(" + player + ", " + p;
        List<Integer> row = board.breaker(player, p);
        int length = row == null ? 0 : row.size();
        for (int i = 0; i < 10; i++) {
            due("breaker" + call + ", " + i, x.breaker(player, p, i), i < length ? row.get(i) : -1);
        }
        int[] worth = board.worth(player, p);
        due("worth" + call + ", 0", x.worth(player, p, 0), worth[0]);
        due("worth" + call + ", 1", x.worth(player, p, 1), worth[1]);
    }

    private void comparePlace(int p) {
        due("plan(" + p, x.plan(p), board.plan(p));
        int[] mean = board.mean(p);
        due("mean(" + p + ", 0", x.mean(p, 0), mean[0]);
        due("mean(" + p + ", 1", x.mean(p, 1), mean[1]);
        // An object answers 512 calls: the questions are asked of another one.
        OneMark other = copied();
        for (int bound = 0; bound <= 6; bound++) {
            int order = mean[0] - bound * mean[1];
            String unit = "mean " + p + " below " + bound;
            due(unit, Texts.ask(other, unit), order < 0 ? 1 : 0);
            unit = "mean " + p + " above " + bound;
            due(unit, Texts.ask(other, unit), order > 0 ? 1 : 0);
        }
        for (int i = 0; i < 3; i++) {
            int k = random.nextInt(i == 0 ? 501 : 9);
            due("after(" + k + ", " + p, x.after(k, p), board.after(k, p));
        }
    }

    private void compareQuestions(int seed) {
        make(4, 8);
        for (int i = 0; i < 4; i++) {
            Asking.Tree tree = Asking.question(random, board.places(), 2);
            if (tree.words().length() > 120) continue;
            ask(tree);
            for (int j = 0; j < 2; j++) {
                compareAsked(tree);
                change();
            }
            due("place", x.place(0, 9), OneMark.OUTSIDE);
        }
    }

    private void ask(Asking.Tree tree) {
        due("write " + tree.words(), Texts.write(x, tree.words()), tree.words().length());
        due("fault of " + tree.words(), x.fault(), -1);
        due("ask " + tree.words(), x.ask(), tree.holds(board) ? 1 : 0);
        due("count(4)", x.count(4), 0);
        due("count(5) of " + tree.words(), x.count(5), tree.units());
    }

    private void compareAsked(Asking.Tree tree) {
        boolean now = tree.holds(board);
        due("holds " + tree.words(), x.holds(), now ? 1 : 0);
        int turned = 0;
        for (int a = 0; a < board.arrows.size(); a++) {
            Oracle without = board.copy();
            without.arrows.remove(a);
            if (tree.holds(without) != now) turned |= 1 << a;
        }
        due("turned by " + tree.words(), x.turned(), turned);
        int bought = -1;
        for (int bits = 0; bits <= board.all(); bits++) {
            boolean fewer = bought == -1 || Integer.bitCount(bits) < Integer.bitCount(bought);
            if (fewer && tree.holds(changed(bits))) bought = bits;
        }
        due("bought for " + tree.words(), x.bought(), bought);
    }

    private Oracle changed(int bits) {
        Oracle changed = board.copy();
        for (int p = 0; p < board.places(); p++) {
            if ((bits >> p & 1) != 0) changed.owner.set(p, 1 - board.owner.get(p));
        }
        return changed;
    }

    /** Texts that are a few signs or words off. */
    private void compareFaults() {
        make(8, 2);
        for (int i = 0; i < 20; i++) {
            String text = Asking.question(random, board.places(), 3).words();
            for (int j = random.nextInt(4); j > 0; j--) text = bent(text);
            if (text.length() > 120) text = text.substring(0, 120);
            due("fault of \"" + text + "\" with " + board.places(), Texts.faultOf(x, text), Asking.faultOf(text, board.places()));
        }
    }

    private String bent(String text) {
        String[] words = {"not", "(", ")", "one", "other", "forces", "keeps", "again", "even", "mean", "from", "above",
            "below", "and", "or", "0", "7", "8", "07", "10", "100", "A", "\u00e9", "x", "  ", " ", "-", "\0", "`", "{", "/", ":"};
        String word = words[random.nextInt(words.length)];
        int at = random.nextInt(text.length() + 1);
        int end = Math.min(text.length(), at + random.nextInt(4));
        switch (random.nextInt(4)) {
            case 0: return text.substring(0, at) + text.substring(end);
            case 1: return text.substring(0, at) + " " + word + " " + text.substring(at);
            case 2: return text.substring(0, at) + word + text.substring(end);
            default: return text.substring(0, at);
        }
    }
}
