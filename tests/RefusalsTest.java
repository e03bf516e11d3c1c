import java.util.ArrayList;
import java.util.List;
import java.util.function.Supplier;

/**
 * "Refused, and nothing changes: UNKNOWN (no such PLAYER, PLACE, ARROW), OUTSIDE (another number is not as told),
 * NOT (not now: as told), FULL: the first of these that fits." Each call with all numbers at and behind its bounds,
 * in all their pairs, on an empty, a small and a full board.
 */
public final class RefusalsTest {
    private static final Checks CHECKS = new Checks();
    private static final int LEAST = Integer.MIN_VALUE, MOST = Integer.MAX_VALUE;
    private static final int UNKNOWN = OneMark.UNKNOWN, OUTSIDE = OneMark.OUTSIDE, NOT = OneMark.NOT, FULL = OneMark.FULL;
    // Making a board takes some 70 calls and seeing all of it some 200 more, of 512.
    private static final int REFUSED_AT_ONCE = 150;
    private static final Call TAKEN = (x, numbers) -> 0;

    private static final List<String> MAY_BE_LESS = List.of("6: set of an arrow", "15: after", "16: mean", "22: worth");

    private interface Call {
        int on(OneMark x, int[] numbers);
    }

    /** The numbers that are as told, of which the bounds are tried, and what is answered for others. */
    private static final class Kind {
        final int[] right;
        final int[] wrong;
        final int code;

        Kind(int code, int first, int last) {
            this.code = code;
            right = first > last ? new int[0] : first == last ? new int[] {first} : new int[] {first, last};
            wrong = new int[] {first - 1, last + 1, LEAST, MOST};
        }

        Kind(int code, int[] right, int[] wrong) {
            this.code = code;
            this.right = right;
            this.wrong = wrong;
        }
    }

    private final String board;
    private final Supplier<OneMark> made;
    private final Kind player = new Kind(UNKNOWN, 0, 1);
    private final Kind place;
    private final Kind arrow;
    private final Kind set;

    private final List<String> refused = new ArrayList<>();
    private OneMark x;
    private int calls;

    private RefusalsTest(String board, Supplier<OneMark> made) {
        this.board = board;
        this.made = made;
        int places = made.get().count(0);
        int bit = 1 << places;
        place = new Kind(UNKNOWN, 0, places - 1);
        arrow = new Kind(UNKNOWN, 0, made.get().count(1) - 1);
        set = new Kind(OUTSIDE, new int[] {0, bit - 1}, new int[] {bit, bit | bit - 1, -1, -bit, LEAST, MOST, 1 << 30});
    }

    public static void main(String[] args) {
        tryAllOn("empty", OneMark::new);
        tryAllOn("some", Boards::some);
        tryAllOn("full", Boards::full);
        notNow();
        noneLeft();
        severalFit();
        boardsAreAsTold();
        CHECKS.end("RefusalsTest");
    }

    private static void tryAllOn(String board, Supplier<OneMark> made) {
        new RefusalsTest(board, made).allCalls();
        new RefusalsTest(board, made).allCallsOfLeastInt();
    }

    private void allCalls() {
        boolean full = board.equals("full");
        Kind number = new Kind(OUTSIDE, 0, 7);
        Kind weight = new Kind(OUTSIDE, -5, 5);
        Kind i = new Kind(OUTSIDE, new int[] {0, MOST}, new int[] {-1, LEAST});
        Kind bytes = new Kind(OUTSIDE, new int[] {-1}, new int[0]);
        Call isFull = (y, n) -> full ? FULL : 0;
        Call isArrowLess = (y, n) -> y.from(n[0], n[1]) >= 0 ? NOT : full ? FULL : 0;
        tryAll("2: place", (y, n) -> y.place(n[0], n[1]), isFull, player, number);
        tryAll("3: arrow", (y, n) -> y.arrow(n[0], n[1], n[2]), isArrowLess, place, place, weight);
        tryAll("4: cut", (y, n) -> y.cut(n[0]), TAKEN, arrow);
        tryAll("5: give", (y, n) -> y.give(n[0], n[1]), TAKEN, place, player);
        tryAll("7: from", (y, n) -> y.from(n[0], n[1]), TAKEN, place, place);
        tryAll("8: forced", (y, n) -> y.forced(n[0], n[1]), TAKEN, player, set);
        tryAll("9: steps", (y, n) -> y.steps(n[0], n[1], n[2]), TAKEN, player, set, place);
        tryAll("10: kept", (y, n) -> y.kept(n[0], n[1]), TAKEN, player, set);
        tryAll("11: again", (y, n) -> y.again(n[0], n[1]), TAKEN, player, set);
        tryAll("12: both", (y, n) -> y.both(n[0], n[1], n[2]), TAKEN, player, set, set);
        tryAll("14: plan", (y, n) -> y.plan(n[0]), TAKEN, place);
        tryAll("18: tell", (y, n) -> y.tell(n[0]), TAKEN, arrow);
        tryAll("19: untell", (y, n) -> y.untell(n[0]), RefusalsTest::toldOr, place);
        tryAll("20: judged", (y, n) -> y.judged(n[0]), TAKEN, player);
        tryAll("21: breaker", (y, n) -> y.breaker(n[0], n[1], n[2]), TAKEN, player, place, i);
        tryAll("23: write", (y, n) -> y.write(n[0], n[1]), isFull, bytes, new Kind(OUTSIDE, 1, 8));
        tryAll("30: count", (y, n) -> y.count(n[0]), TAKEN, new Kind(OUTSIDE, 0, 5));
        compareSeen();
    }

    /** NOT, if none is TOLD for a place. */
    private static int toldOr(OneMark x, int[] numbers) {
        int told = x.untell(numbers[0]);
        if (told >= 0) x.tell(told);
        return told >= 0 ? 0 : NOT;
    }

    /** The calls whose answer itself may be below 0: they answer the least int for UNKNOWN and OUTSIDE. */
    private void allCallsOfLeastInt() {
        Kind placeOrLeast = new Kind(LEAST, place.right, place.wrong);
        Kind arrowOrLeast = new Kind(LEAST, arrow.right, arrow.wrong);
        Kind playerOrLeast = new Kind(LEAST, 0, 1);
        Kind part = new Kind(LEAST, 0, 1);
        Kind setOrLeast = new Kind(LEAST, set.right, set.wrong);
        Kind noWhat = new Kind(LEAST, new int[0], new int[] {-1, 2, LEAST, MOST});
        Kind any = new Kind(LEAST, new int[] {0, 1}, new int[0]);
        tryAll("6: set of a place", (y, n) -> y.set(0, n[0], n[1]), TAKEN, placeOrLeast, new Kind(LEAST, 0, 7));
        tryAll("6: set of an arrow", (y, n) -> y.set(1, n[0], n[1]), TAKEN, arrowOrLeast, new Kind(LEAST, -5, 5));
        tryAll("6: set of what is not", (y, n) -> y.set(n[0], n[1], n[2]), TAKEN, noWhat, any, any);
        tryAll("15: after", (y, n) -> y.after(n[0], n[1]), TAKEN, new Kind(LEAST, 0, 500), placeOrLeast);
        tryAll("16: mean", (y, n) -> y.mean(n[0], n[1]), TAKEN, placeOrLeast, part);
        tryAll("17: rate", (y, n) -> y.rate(n[0], n[1], n[2], n[3]), TAKEN, playerOrLeast, setOrLeast, placeOrLeast, part);
        tryAll("22: worth", (y, n) -> y.worth(n[0], n[1], n[2]), TAKEN, playerOrLeast, placeOrLeast, part);
        compareSeen();
    }

    /** Tries all rows of numbers; of those that are all as told, another call tells the due code, or 0: it is taken. */
    private void tryAll(String name, Call call, Call otherwise, Kind... kinds) {
        int rows = 1;
        for (Kind kind : kinds) rows *= kind.right.length + kind.wrong.length;
        for (int row = 0; row < rows; row++) {
            int[] numbers = new int[kinds.length];
            int due = 0;
            int left = row;
            for (int k = 0; k < kinds.length; k++) {
                int tried = kinds[k].right.length + kinds[k].wrong.length;
                int at = left % tried - kinds[k].right.length;
                left /= tried;
                numbers[k] = at < 0 ? kinds[k].right[at + kinds[k].right.length] : kinds[k].wrong[at];
                if (at >= 0 && due != UNKNOWN) due = kinds[k].code;
            }
            if (due == 0) due = otherwise.on(made.get(), numbers);
            if (due == 0) isTaken(name, call, numbers);
            else isRefused(name, call, due, numbers);
        }
    }

    private String told(String name, int[] numbers) {
        StringBuilder out = new StringBuilder(name + " on " + board + ":");
        for (int n : numbers) out.append(' ').append(n);
        return out.toString();
    }

    private void isTaken(String name, Call call, int[] numbers) {
        int answer = call.on(made.get(), numbers);
        CHECKS.isTrue(told(name, numbers) + " is refused: " + answer,
            answer >= OneMark.NONE || answer > LEAST && MAY_BE_LESS.contains(name));
    }

    private void isRefused(String name, Call call, int due, int... numbers) {
        if (x == null) x = made.get();
        CHECKS.due(told(name, numbers), call.on(x, numbers), due);
        refused.add(told(name, numbers));
        if (++calls == REFUSED_AT_ONCE) compareSeen();
    }

    private void compareSeen() {
        if (x == null) return;
        CHECKS.isTrue("nothing changes by " + refused, Boards.seen(x).equals(Boards.seen(made.get())));
        x = null;
        calls = 0;
        refused.clear();
    }

    /** A call that is refused, on a board of its own, all of which is as before. */
    private static void once(String name, Supplier<OneMark> made, Call call, int due) {
        OneMark x = made.get();
        CHECKS.due(name, call.on(x, new int[0]), due);
        CHECKS.isTrue(name + ", nothing changes", Boards.seen(x).equals(Boards.seen(made.get())));
    }

    private static void notNow() {
        once("3: NOT: there is one", Boards::some, (x, n) -> x.arrow(1, 0, 5), NOT);
        once("3: NOT: there is one to itself", () -> Boards.of(new int[][] {{0, 3}}, new int[][] {{0, 0, 1}}),
            (x, n) -> x.arrow(0, 0, 1), NOT);
        once("19: NOT: none is", Boards::some, (x, n) -> x.untell(2), NOT);
        once("19: NOT: for any place of a full board", Boards::full, (x, n) -> x.untell(0), NOT);
        once("26: NOT: it has a FAULT", Boards::some, (x, n) -> x.ask(), NOT);
        once("26: NOT: an empty text has a FAULT", () -> emptied(Boards.some()), (x, n) -> x.ask(), NOT);
        once("26: NOT: 120 bytes with a FAULT", RefusalsTest::fullFault, (x, n) -> x.ask(), NOT);
        once("27: NOT: nothing is ASKED", RefusalsTest::neverAsked, (x, n) -> x.holds(), NOT);
        once("28: NOT: nothing is ASKED", RefusalsTest::neverAsked, (x, n) -> x.turned(), NOT);
        once("29: NOT: nothing is ASKED", RefusalsTest::neverAsked, (x, n) -> x.bought(), NOT);
    }

    private static OneMark emptied(OneMark x) {
        x.erase();
        return x;
    }

    private static OneMark fullFault() {
        OneMark x = emptied(Boards.full());
        Texts.write(x, Boards.FULL_TEXT.substring(0, 117) + "and");
        return x;
    }

    private static OneMark neverAsked() {
        OneMark x = Boards.of(new int[][] {{0, 1}, {1, 0}}, new int[][] {{0, 1, 2}, {1, 0, 3}});
        Texts.write(x, "even from 0");
        return x;
    }

    private static void noneLeft() {
        once("2: FULL", Boards::full, (x, n) -> x.place(1, 7), FULL);
        once("3: FULL", Boards::full, (x, n) -> x.arrow(7, 0, 0), FULL);
        once("23: FULL", Boards::full, (x, n) -> x.write(0, 1), FULL);
        once("23: FULL: less room than bytes", () -> written(113), (x, n) -> x.write(0x2020202020202020L, 8), FULL);
    }

    private static OneMark written(int bytes) {
        OneMark x = Boards.of(new int[][] {{0, 1}, {1, 0}}, new int[][] {{0, 1, 2}});
        for (int i = 0; i < bytes; i++) x.write(' ', 1);
        return x;
    }

    private static void severalFit() {
        once("2: UNKNOWN ahead of OUTSIDE", Boards::some, (x, n) -> x.place(2, 8), UNKNOWN);
        once("2: UNKNOWN ahead of FULL", Boards::full, (x, n) -> x.place(2, 7), UNKNOWN);
        once("2: OUTSIDE ahead of FULL", Boards::full, (x, n) -> x.place(1, 8), OUTSIDE);
        once("2: UNKNOWN ahead of both", Boards::full, (x, n) -> x.place(-1, -1), UNKNOWN);
        once("3: UNKNOWN ahead of OUTSIDE", Boards::some, (x, n) -> x.arrow(0, 3, 6), UNKNOWN);
        once("3: UNKNOWN ahead of FULL", Boards::full, (x, n) -> x.arrow(8, 0, 0), UNKNOWN);
        once("3: OUTSIDE ahead of NOT", Boards::some, (x, n) -> x.arrow(1, 0, 6), OUTSIDE);
        once("3: OUTSIDE ahead of FULL", Boards::full, (x, n) -> x.arrow(7, 0, -6), OUTSIDE);
        once("3: NOT ahead of FULL", Boards::full, (x, n) -> x.arrow(0, 1, 0), NOT);
        once("3: OUTSIDE ahead of NOT and FULL", Boards::full, (x, n) -> x.arrow(0, 1, 6), OUTSIDE);
        once("3: UNKNOWN ahead of OUTSIDE and FULL", Boards::full, (x, n) -> x.arrow(-1, 0, -6), UNKNOWN);
        once("8: UNKNOWN ahead of OUTSIDE", Boards::some, (x, n) -> x.forced(2, 8), UNKNOWN);
        once("9: UNKNOWN (the place) ahead of OUTSIDE", Boards::some, (x, n) -> x.steps(0, 8, 3), UNKNOWN);
        once("9: UNKNOWN (the player) ahead of OUTSIDE", Boards::some, (x, n) -> x.steps(2, 8, 0), UNKNOWN);
        once("10: UNKNOWN ahead of OUTSIDE", Boards::some, (x, n) -> x.kept(2, 8), UNKNOWN);
        once("11: UNKNOWN ahead of OUTSIDE", Boards::some, (x, n) -> x.again(2, 8), UNKNOWN);
        once("12: UNKNOWN ahead of OUTSIDE", Boards::some, (x, n) -> x.both(2, 8, 8), UNKNOWN);
        once("21: UNKNOWN (the player) ahead of OUTSIDE", Boards::some, (x, n) -> x.breaker(2, 0, -1), UNKNOWN);
        once("21: UNKNOWN (the place) ahead of OUTSIDE", Boards::some, (x, n) -> x.breaker(0, 3, -1), UNKNOWN);
        once("21: OUTSIDE where it is RIGHT", Boards::some, (x, n) -> x.breaker(0, 2, -1), OUTSIDE);
        once("23: OUTSIDE ahead of FULL", Boards::full, (x, n) -> x.write(0, 9), OUTSIDE);
        once("23: OUTSIDE ahead of FULL: no bytes", Boards::full, (x, n) -> x.write(0, 0), OUTSIDE);
    }

    /** The boards are what the calls above take them for. */
    private static void boardsAreAsTold() {
        int[] some = {3, 4, 2, 2, 14, 2};
        int[] full = {8, 20, 4, 2, 120, 2};
        for (int what = 0; what <= 5; what++) {
            CHECKS.due("count of some: " + what, Boards.some().count(what), some[what]);
            CHECKS.due("count of full: " + what, Boards.full().count(what), full[what]);
        }
        CHECKS.due("the text of full has no fault", Boards.full().fault(), OneMark.NONE);
        CHECKS.due("the text of some has one", Boards.some().fault(), 14);
    }
}
