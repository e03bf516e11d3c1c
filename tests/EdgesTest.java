/** The sentences of "Terms", parts 1 to 3, that name a bound or a boundary case: a method for each of them. */
public final class EdgesTest {
    private static final Checks CHECKS = new Checks();
    private static final int LEAST = Integer.MIN_VALUE, MOST = Integer.MAX_VALUE;
    private static final int NONE = OneMark.NONE, UNKNOWN = OneMark.UNKNOWN, OUTSIDE = OneMark.OUTSIDE;
    private static final int NOT = OneMark.NOT, FULL = OneMark.FULL;
    private static final int ONE = 0, OTHER = 1;

    private static String sentence = "";

    public static void main(String[] args) {
        callsToTheLast();
        placesAtMost();
        players();
        numbers();
        arrowsAtMost();
        arrowsEachWay();
        weights();
        staysWithoutArrows();
        staysWhenTheLastIsCut();
        cutNumbers();
        cutTold();
        given();
        forcedAtOnce();
        stepsOfBoth();
        keptNeverOut();
        againWithoutEnd();
        bothOfTwo();
        wonWithoutEnd();
        planLeastArrow();
        planPlaces();
        afterMoves();
        meanForEver();
        meanOfManyPlans();
        arrowsInAnyOrder();
        meanEightBelow();
        rates();
        toldNoneAtFirst();
        judgedAsToldOrLiked();
        breakerRows();
        breakerOfSeveral();
        worths();
        worthEightBelow();
        CHECKS.end("EdgesTest");
    }

    private static void say(String words) {
        sentence = words;
    }

    private static void due(String call, long got, long want) {
        CHECKS.due("\"" + sentence + "\": " + call, got, want);
    }

    private static OneMark board(int[][] places, int[][] arrows) {
        return Boards.of(places, arrows);
    }

    /** A ring of some places of one player; the first arrow has one weight, all others have another. */
    private static OneMark ring(int places, int player, int firstWeight, int weight) {
        OneMark x = new OneMark();
        for (int p = 0; p < places; p++) x.place(player, 1);
        for (int p = 0; p < places; p++) x.arrow(p, (p + 1) % places, p == 0 ? firstWeight : weight);
        return x;
    }

    private static void fraction(String call, int above, int below, int wantAbove, int wantBelow) {
        due(call + ", 0", above, wantAbove);
        due(call + ", 1", below, wantBelow);
    }

    private static void meanIs(OneMark x, int p, int above, int below) {
        fraction("mean(" + p, x.mean(p, 0), x.mean(p, 1), above, below);
    }

    private static void rateIs(OneMark x, int player, int set, int p, int above, int below) {
        fraction("rate(" + player + ", " + set + ", " + p, x.rate(player, set, p, 0), x.rate(player, set, p, 1), above, below);
    }

    private static void worthIs(OneMark x, int player, int p, int above, int below) {
        fraction("worth(" + player + ", " + p, x.worth(player, p, 0), x.worth(player, p, 1), above, below);
    }

    private static void breakerIs(OneMark x, int player, int p, int... row) {
        for (int i = 0; i < row.length; i++) due("breaker(" + player + ", " + p + ", " + i, x.breaker(player, p, i), row[i]);
        for (int i : new int[] {row.length, 9, 10, MOST}) due("breaker's end, " + i, x.breaker(player, p, i), NONE);
    }

    private static void callsToTheLast() {
        say("An object is used for at most 512 calls after it has been made");
        OneMark x = new OneMark();
        due("call 1", x.place(ONE, 0), 0);
        for (int i = 2; i < 512; i += 2) {
            due("call " + i, x.arrow(0, 0, i % 11 - 5), 0);
            due("call " + (i + 1), x.cut(0), 0);
        }
        due("call 512", x.count(1), 0);
        OneMark asked = new OneMark();
        due("call 1", asked.place(ONE, 0), 0);
        due("call 2", asked.erase(), 0);
        for (int i = 3; i <= 512; i += 3) {
            due("calls " + i + " and " + (i + 1), Texts.write(asked, "even from 0"), 11);
            due("call " + (i + 2), asked.ask(), 1);
        }
        OneMark full = new OneMark();
        for (int i = 1; i <= 512; i++) due("call " + i, full.place(OTHER, 7), i <= 8 ? i - 1 : FULL);
    }

    private static void placesAtMost() {
        say("PLACES are numbered from 0, 8 at most");
        OneMark x = new OneMark();
        due("give", x.give(0, ONE), UNKNOWN);
        for (int p = 0; p < 8; p++) {
            due("place", x.place(p & 1, 7), p);
            due("give " + p, x.give(p, p & 1), p & 1);
            due("give the next", x.give(p + 1, ONE), UNKNOWN);
            due("forced, all", x.forced(OTHER, (2 << p) - 1), (2 << p) - 1);
            due("forced, one more", x.forced(OTHER, 2 << p), OUTSIDE);
        }
        due("place", x.place(ONE, 0), FULL);
        due("count(0)", x.count(0), 8);
        due("arrow of the last", x.arrow(7, 7, 1), 0);
        due("from of the last", x.from(7, 7), 0);
        due("steps of the last", x.steps(ONE, 128, 7), 0);
        due("plan of the last", x.plan(7), 0);
        due("tell of the last", x.tell(0), NONE);
        due("untell of the last", x.untell(7), 0);
        breakerIs(x, ONE, 7, 7, 7);
        meanIs(x, 7, 1, 1);
        worthIs(x, OTHER, 7, 1, 1);
        rateIs(x, OTHER, 128, 7, 1, 1);
        due("even from 7", Texts.ask(x, "even from 7"), 0);
        due("even from 8", Texts.faultOf(x, "even from 8"), 10);
    }

    private static void players() {
        say("each is ONE's (0) or OTHER's (1)");
        OneMark x = new OneMark();
        due("place of ONE", x.place(0, 0), 0);
        due("place of OTHER", x.place(1, 0), 1);
        due("place of a third", x.place(2, 0), UNKNOWN);
        due("place of -1", x.place(-1, 0), UNKNOWN);
        due("count(2)", x.count(2), 1);
        due("whose 0 is", x.give(0, 0), 0);
        due("whose 1 is", x.give(1, 1), 1);
        due("give to a third", x.give(0, 2), UNKNOWN);
        due("forced by a third", x.forced(2, 0), UNKNOWN);
        due("judged for a third", x.judged(2), UNKNOWN);
    }

    private static void numbers() {
        say("has a NUMBER (0 .. 7)");
        for (int n = 0; n <= 7; n++) {
            OneMark x = new OneMark();
            due("place", x.place(ONE, n), 0);
            due("won with " + n, x.won(), n % 2 == 0 ? 1 : 0);
            due("judged(0) with " + n, x.judged(ONE), n % 2 == 0 ? 1 : 0);
            due("judged(1) with " + n, x.judged(OTHER), n % 2);
            due("set", x.set(0, 0, 7 - n), n);
            due("set again", x.set(0, 0, n), 7 - n);
        }
        OneMark x = new OneMark();
        due("place, 8", x.place(ONE, 8), OUTSIDE);
        due("place, -1", x.place(ONE, -1), OUTSIDE);
        due("none is there", x.count(0), 0);
        x.place(ONE, 3);
        due("set, 8", x.set(0, 0, 8), LEAST);
        due("set, -1", x.set(0, 0, -1), LEAST);
        due("set, as before", x.set(0, 0, 3), 3);
    }

    /** Eight places with an arrow to itself and one to the next, and four arrows more: 20. */
    private static OneMark twenty() {
        OneMark x = new OneMark();
        for (int p = 0; p < 8; p++) x.place(p & 1, 0);
        for (int a = 0; a < 20; a++) x.arrow(a % 8, (a % 8 + a / 8) % 8, 0);
        return x;
    }

    private static void arrowsAtMost() {
        say("ARROWS are numbered from 0, 20 at most");
        OneMark x = new OneMark();
        for (int p = 0; p < 8; p++) x.place(p & 1, 0);
        for (int a = 0; a < 20; a++) {
            due("tell the next", x.tell(a), UNKNOWN);
            due("arrow", x.arrow(a % 8, (a % 8 + a / 8) % 8, 0), a);
            due("from", x.from(a % 8, (a % 8 + a / 8) % 8), a);
        }
        due("arrow 21", x.arrow(7, 1, 0), FULL);
        due("count(1)", x.count(1), 20);
        due("it is not there", x.from(7, 1), NONE);
        due("set of the last", x.set(1, 19, 5), 0);
        due("tell the last", x.tell(19), NONE);
        due("tell one more", x.tell(20), UNKNOWN);
        due("cut one more", x.cut(20), UNKNOWN);
        due("set of one more", x.set(1, 20, 0), LEAST);
        due("cut", x.cut(5), 19);
        due("room again", x.arrow(7, 1, 0), 19);
        due("full again", x.arrow(6, 1, 0), FULL);
    }

    private static void arrowsEachWay() {
        say("each from a PLACE to a PLACE (also the same; of two PLACES one at most each way)");
        OneMark x = board(new int[][] {{ONE, 0}, {OTHER, 0}}, new int[0][]);
        due("the same", x.arrow(1, 1, 1), 0);
        due("one way", x.arrow(0, 1, 2), 1);
        due("the other way", x.arrow(1, 0, 3), 2);
        due("the same again", x.arrow(1, 1, 4), NOT);
        due("one way again", x.arrow(0, 1, 4), NOT);
        due("the other way again", x.arrow(1, 0, 4), NOT);
        for (int a = 0; a < 3; a++) due("its weight", x.set(1, a, 0), a + 1);
        due("count(1)", x.count(1), 3);
        due("no arrow", x.from(0, 0), NONE);
        due("cut", x.cut(1), 2);
        due("no longer", x.from(0, 1), NONE);
        due("one way anew", x.arrow(0, 1, 4), 2);
    }

    private static void weights() {
        say("with a WEIGHT (-5 .. 5)");
        for (int w = -5; w <= 5; w++) {
            OneMark x = new OneMark();
            x.place(ONE, 0);
            due("arrow", x.arrow(0, 0, w), 0);
            due("after 1", x.after(1, 0), w);
            meanIs(x, 0, w, 1);
            worthIs(x, ONE, 0, w, 1);
            worthIs(x, OTHER, 0, w, 1);
            due("set", x.set(1, 0, -w), w);
            due("set again", x.set(1, 0, w), -w);
        }
        OneMark x = new OneMark();
        x.place(ONE, 0);
        due("arrow, -6", x.arrow(0, 0, -6), OUTSIDE);
        due("arrow, 6", x.arrow(0, 0, 6), OUTSIDE);
        due("none is there", x.count(1), 0);
        x.arrow(0, 0, 2);
        due("set, -6", x.set(1, 0, -6), LEAST);
        due("set, 6", x.set(1, 0, 6), LEAST);
        due("as before", x.set(1, 0, 2), 2);
    }

    private static void staysWithoutArrows() {
        say("where there is none, it stays, as by an ARROW to itself with WEIGHT 0 (that has no number)");
        OneMark x = board(new int[][] {{ONE, 2}, {OTHER, 5}}, new int[0][]);
        due("forced", x.forced(ONE, 1), 1);
        due("forced by OTHER", x.forced(OTHER, 2), 2);
        due("steps", x.steps(OTHER, 1, 1), NONE);
        due("kept", x.kept(ONE, 1), 1);
        due("kept by OTHER", x.kept(OTHER, 1), 1);
        due("again", x.again(ONE, 1), 1);
        due("again by OTHER", x.again(OTHER, 3), 3);
        due("both", x.both(ONE, 1, 3), 1);
        due("both of two", x.both(ONE, 1, 2), 0);
        due("won", x.won(), 1);
        due("plan of ONE", x.plan(0), NONE);
        due("plan of OTHER", x.plan(1), NONE);
        due("after", x.after(500, 0), 0);
        meanIs(x, 0, 0, 1);
        meanIs(x, 1, 0, 1);
        rateIs(x, ONE, 1, 0, 1, 1);
        rateIs(x, OTHER, 2, 1, 1, 1);
        rateIs(x, ONE, 2, 0, 0, 1);
        due("judged(0)", x.judged(ONE), 1);
        due("judged(1)", x.judged(OTHER), 2);
        breakerIs(x, ONE, 1, 1, 1);
        breakerIs(x, OTHER, 0, 0, 0);
        worthIs(x, ONE, 0, 0, 1);
        worthIs(x, OTHER, 0, 0, 1);
        due("from", x.from(0, 0), NONE);
        due("count(1)", x.count(1), 0);
        due("cut", x.cut(0), UNKNOWN);
        due("tell", x.tell(0), UNKNOWN);
        due("untell", x.untell(0), NOT);
        due("ask", Texts.ask(x, "one keeps 0 from 0 and other again 1 from 1 and not mean 0 above 0 and mean 0 below 1"), 1);
        due("turned", x.turned(), 0);
        due("arrow: there was none", x.arrow(0, 0, 3), 0);
        meanIs(x, 0, 3, 1);
    }

    private static void staysWhenTheLastIsCut() {
        say("where there is none, it stays");
        OneMark x = board(new int[][] {{ONE, 0}, {OTHER, 1}}, new int[][] {{0, 1, 5}});
        due("an arrow: it does not stay", x.kept(ONE, 1), 0);
        due("won", x.won(), 0);
        due("ask", Texts.ask(x, "one keeps 0 from 0"), 0);
        due("turned: without it, it would stay", x.turned(), 1);
        due("cut", x.cut(0), 0);
        due("kept", x.kept(ONE, 1), 1);
        due("won", x.won(), 1);
        due("holds", x.holds(), 1);
        due("after", x.after(3, 0), 0);
        OneMark two = board(new int[][] {{ONE, 0}, {ONE, 0}}, new int[][] {{0, 1, 1}, {1, 0, -2}});
        due("ask", Texts.ask(two, "mean 0 below 0"), 1);
        due("turned by each: 0 is not below", two.turned(), 3);
    }

    private static void cutNumbers() {
        say("An ARROW is no more (those behind it get a number less): how many are left");
        int[][] arrows = {{0, 0, 1}, {0, 1, 2}, {1, 0, 3}, {1, 1, 4}};
        for (int gone = 0; gone < 4; gone++) {
            OneMark x = board(new int[][] {{ONE, 0}, {OTHER, 0}}, arrows);
            due("cut", x.cut(gone), 3);
            for (int a = 0; a < 4; a++) {
                int now = a < gone ? a : a == gone ? NONE : a - 1;
                due("from", x.from(arrows[a][0], arrows[a][1]), now);
                if (now != NONE) due("its weight", x.set(1, now, 0), arrows[a][2]);
            }
            due("3 is no more", x.cut(3), UNKNOWN);
        }
        OneMark x = board(new int[][] {{ONE, 0}, {OTHER, 0}}, arrows);
        for (int left = 3; left >= 0; left--) due("cut", x.cut(0), left);
        due("none left", x.cut(0), UNKNOWN);
        OneMark full = twenty();
        for (int left = 19; left >= 0; left--) due("cut the last", full.cut(left), left);
    }

    private static void cutTold() {
        say("what is TOLD goes along, NONE for this");
        int[][] arrows = {{0, 1, 0}, {1, 2, 0}, {2, 0, 0}};
        for (int gone = 0; gone < 3; gone++) {
            OneMark x = board(new int[][] {{ONE, 0}, {OTHER, 0}, {ONE, 0}}, arrows);
            for (int a = 0; a < 3; a++) x.tell(a);
            due("cut", x.cut(gone), 2);
            due("count(3)", x.count(3), 2);
            for (int p = 0; p < 3; p++) due("untell " + p, x.untell(p), p < gone ? p : p == gone ? NOT : p - 1);
        }
        OneMark x = board(new int[][] {{ONE, 0}, {OTHER, 0}}, new int[][] {{0, 0, 0}, {0, 1, 0}});
        x.tell(1);
        due("cut what is not told", x.cut(0), 1);
        due("told is the same arrow", x.tell(0), 0);
        due("cut what is told", x.cut(0), 0);
        due("none is told for a new arrow", x.arrow(0, 1, 0), 0);
        due("untell", x.untell(0), NOT);
    }

    private static void given() {
        say("A PLACE is a PLAYER's: whose it was");
        OneMark x = twenty();
        for (int p = 0; p < 8; p++) due("give " + p, x.give(p, ONE), p & 1);
        due("count(2)", x.count(2), 8);
        due("ONE forces all", x.forced(ONE, 1), 255);
        due("OTHER forces none", x.forced(OTHER, 1), 1);
        for (int p = 0; p < 8; p++) due("give " + p, x.give(p, OTHER), ONE);
        due("count(2)", x.count(2), 0);
        due("ONE forces none", x.forced(ONE, 1), 1);
        due("give again", x.give(7, OTHER), OTHER);
        due("numbers are as before", x.set(0, 7, 0), 0);
        due("arrows are as before", x.count(1), 20);
    }

    private static void forcedAtOnce() {
        say("so that THE MARK is in the set at some time (at once, too), whatever the other does");
        OneMark row = Boards.row(8, OTHER);
        due("at once alone", row.forced(ONE, 1), 1);
        due("all of a row", row.forced(ONE, 128), 255);
        due("into none", row.forced(ONE, 0), 0);
        due("into none by OTHER", row.forced(OTHER, 0), 0);
        due("into all", row.forced(ONE, 255), 255);
        OneMark x = board(new int[][] {{OTHER, 0}, {ONE, 0}, {ONE, 0}}, new int[][] {{0, 1, 0}, {0, 2, 0}, {1, 0, 0}});
        due("OTHER goes past", x.forced(ONE, 2), 2);
        due("no way past two", x.forced(ONE, 6), 7);
        due("OTHER can", x.forced(OTHER, 2), 3);
        due("at a place that stays", x.forced(OTHER, 4), 7);
    }

    private static void stepsOfBoth() {
        say("within how many moves of both it can be sure of that");
        OneMark ring = Boards.ring();
        for (int p = 0; p < 8; p++) {
            due("steps by ONE from " + p, ring.steps(ONE, 128, p), 7 - p);
            due("steps by OTHER from " + p, ring.steps(OTHER, 128, p), 7 - p);
        }
        due("into none", ring.steps(ONE, 0, 0), NONE);
        due("into all", ring.steps(OTHER, 255, 7), 0);
        OneMark x = board(new int[][] {{ONE, 0}, {ONE, 0}, {OTHER, 0}}, new int[][] {{0, 1, 0}, {0, 2, 0}, {1, 2, 0}, {2, 2, 0}});
        due("the short way", x.steps(ONE, 4, 0), 1);
        due("by the long way, if the other likes", x.steps(OTHER, 4, 0), 2);
        due("at once", x.steps(OTHER, 4, 2), 0);
        due("not forced", x.steps(ONE, 1, 1), NONE);
        x.arrow(0, 0, 0);
        due("the other holds back for ever", x.steps(OTHER, 4, 0), NONE);
        OneMark left = board(new int[][] {{OTHER, 0}, {ONE, 0}, {ONE, 0}, {ONE, 0}},
            new int[][] {{0, 2, 0}, {0, 1, 0}, {1, 2, 0}, {2, 3, 0}});
        due("within two, also where it is left at once", left.steps(ONE, 4, 0), 2);
        due("by the short way", left.steps(OTHER, 4, 0), 1);
    }

    private static void keptNeverOut() {
        say("so that THE MARK is never out of the set");
        OneMark ring = Boards.ring();
        due("all", ring.kept(ONE, 255), 255);
        due("all, by OTHER", ring.kept(OTHER, 255), 255);
        for (int p = 0; p < 8; p++) due("all but one", ring.kept(ONE, 255 & ~(1 << p)), 0);
        due("none", ring.kept(ONE, 0), 0);
        due("none, by OTHER", ring.kept(OTHER, 0), 0);
        OneMark x = board(new int[][] {{ONE, 0}, {OTHER, 0}, {ONE, 0}}, new int[][] {{0, 1, 0}, {1, 1, 0}, {1, 2, 0}});
        due("at first out of it, too", x.kept(OTHER, 2), 2);
        due("ONE can't hold it", x.kept(ONE, 3), 0);
        due("from the first on", x.kept(OTHER, 3), 3);
        due("it stays", x.kept(ONE, 4), 4);
    }

    private static void againWithoutEnd() {
        say("so that it is in the set again and again, without end");
        OneMark row = Boards.row(8, ONE);
        due("once only", row.again(ONE, 1), 0);
        due("seven once each", row.again(ONE, 127), 0);
        due("where it stays", row.again(OTHER, 128), 255);
        OneMark ring = Boards.ring();
        for (int p = 0; p < 8; p++) due("each of a ring", ring.again(p & 1, 1 << p), 255);
        due("none", ring.again(ONE, 0), 0);
        due("all", ring.again(OTHER, 255), 255);
        OneMark x = board(new int[][] {{OTHER, 0}, {ONE, 0}, {ONE, 0}}, new int[][] {{0, 0, 0}, {0, 1, 0}, {1, 0, 0}, {1, 2, 0}});
        due("OTHER may stop going there", x.again(ONE, 2), 0);
        due("OTHER can't be sure, since ONE goes off", x.again(OTHER, 2), 0);
        due("OTHER stays", x.again(OTHER, 1), 1);
    }

    private static void bothOfTwo() {
        say("so that it is in the one again and again and in the other one, too");
        OneMark ring = Boards.ring();
        due("two of a ring", ring.both(ONE, 1, 128), 255);
        due("the one is empty", ring.both(ONE, 0, 255), 0);
        due("the other one is empty", ring.both(OTHER, 255, 0), 0);
        due("both are empty", ring.both(OTHER, 0, 0), 0);
        due("both are all", ring.both(OTHER, 255, 255), 255);
        OneMark row = Boards.row(2, ONE);
        due("once and again", row.both(ONE, 1, 2), 0);
        due("again and once", row.both(ONE, 2, 1), 0);
        due("in both where it stays", row.both(OTHER, 2, 3), 3);
        OneMark x = board(new int[][] {{ONE, 0}, {ONE, 0}}, new int[][] {{0, 0, 0}, {0, 1, 0}, {1, 1, 0}, {1, 0, 0}});
        due("not by one move each alone", x.both(ONE, 1, 2), 3);
        x.cut(3);
        due("the one or the other one", x.both(ONE, 1, 2), 0);
        due("the one", x.again(ONE, 1), 1);
        due("the other one", x.again(ONE, 2), 3);
    }

    private static void wonWithoutEnd() {
        say("the least of all NUMBERS that THE MARK meets without end is even; all others are WON by OTHER");
        OneMark x = board(new int[][] {{ONE, 1}, {OTHER, 2}}, new int[][] {{0, 1, 0}, {1, 1, 0}});
        due("1 is met once", x.won(), 3);
        x.arrow(1, 0, 0);
        due("1 again and again, if OTHER likes", x.won(), 0);
        due("WON by OTHER", x.plan(1), 2);
        x.give(1, ONE);
        due("ONE stays at 2", x.won(), 3);
        OneMark ring = ring(8, ONE, 0, 0);
        for (int p = 0; p < 8; p++) ring.set(0, p, 7);
        due("7 alone is odd", ring.won(), 0);
        ring.set(0, 7, 6);
        due("6 is less", ring.won(), 255);
        ring.set(0, 3, 1);
        due("1 is less", ring.won(), 0);
        ring.set(0, 5, 0);
        due("0 is even", ring.won(), 255);
        for (int player = 0; player < 2; player++) {
            OneMark apart = new OneMark();
            for (int p = 0; p < 8; p++) apart.place(player, 7 - p);
            due("eight numbers apart", apart.won(), 128 | 32 | 8 | 2);
            for (int p = 0; p < 7; p++) apart.arrow(p, p + 1, 0);
            due("0 in the end", apart.won(), 255);
            for (int p = 0; p < 7; p++) apart.arrow(p, p, 0);
            due("each may stay or go on", apart.won(), player == ONE ? 255 : 128);
        }
    }

    private static void planLeastArrow() {
        say("the least ARROW there by which, when it moves just so there and as chosen for PLACES ahead, all are so still");
        OneMark x = board(new int[][] {{ONE, 0}, {ONE, 0}, {ONE, 0}}, new int[][] {{0, 2, 0}, {0, 1, 0}, {1, 1, 0}, {2, 2, 0}});
        due("by number of arrows, not of places", x.plan(0), 0);
        x.set(0, 2, 1);
        due("the least one loses", x.plan(0), 1);
        x.cut(0);
        due("a number less", x.plan(0), 0);
        OneMark two = board(new int[][] {{ONE, 1}, {ONE, 1}, {ONE, 0}},
            new int[][] {{0, 1, 0}, {1, 0, 0}, {1, 2, 0}, {0, 2, 0}, {2, 0, 0}});
        due("each might do alone", two.plan(0), 0);
        due("as chosen for places ahead", two.plan(1), 2);
        due("one arrow", two.plan(2), 4);
        two.cut(0);
        due("now it may", two.plan(1), 0);
        OneMark other = board(new int[][] {{ONE, 0}, {OTHER, 1}, {OTHER, 1}, {OTHER, 0}},
            new int[][] {{0, 0, 0}, {1, 0, 0}, {1, 2, 0}, {2, 1, 0}, {2, 3, 0}, {3, 2, 0}});
        due("won by OTHER", other.won(), 1);
        due("of OTHER, not to 0", other.plan(1), 2);
        due("of OTHER, chosen for 1", other.plan(2), 3);
        due("of OTHER, last", other.plan(3), 5);
    }

    private static void planPlaces() {
        say("PLAN of a PLAYER: for PLACES of it that are WON by it and have ARROWS");
        OneMark x = board(new int[][] {{ONE, 0}, {OTHER, 0}, {ONE, 1}, {OTHER, 1}}, new int[][] {{0, 0, 0}, {1, 0, 0}, {2, 2, 0}, {3, 2, 0}});
        due("ONE's, won by it", x.plan(0), 0);
        due("OTHER's, won by ONE", x.plan(1), NONE);
        due("ONE's, won by OTHER", x.plan(2), NONE);
        due("OTHER's, won by it", x.plan(3), 3);
        x.cut(0);
        due("no arrows", x.plan(0), NONE);
        OneMark last = twenty();
        due("the last place", last.plan(6), 6);
        for (int p = 0; p < 8; p++) last.set(0, p, 7);
        due("the last place of OTHER", last.plan(7), 7);
        due("of ONE", last.plan(6), NONE);
        due("no such place", last.plan(8), UNKNOWN);
    }

    private static void afterMoves() {
        say("AFTER k moves from a PLACE: the most that ONE can be sure of then, OTHER wanting it least (k 0 .. 500)");
        OneMark x = board(new int[][] {{ONE, 0}, {ONE, 0}, {OTHER, 0}},
            new int[][] {{0, 0, 1}, {0, 1, -5}, {1, 1, 5}, {2, 2, -1}, {2, 1, -4}});
        int[] sums = {0, 1, 2, 5, 10};
        for (int k = 0; k < sums.length; k++) due("after(" + k + ", 0)", x.after(k, 0), sums[k]);
        int[] least = {0, -4, -5, -6, -7};
        for (int k = 0; k < least.length; k++) due("after(" + k + ", 2)", x.after(k, 2), least[k]);
        due("500", x.after(500, 1), 2500);
        due("501", x.after(501, 1), LEAST);
        due("-1", x.after(-1, 1), LEAST);
        x.set(1, 2, -5);
        due("500 of -5", x.after(500, 1), -2500);
        OneMark ring = Boards.ring();
        for (int a = 0; a < 8; a++) ring.set(1, a, a % 2 == 0 ? 5 : -5);
        due("499", ring.after(499, 0), 5);
        due("500", ring.after(500, 0), 0);
        due("499 from 1", ring.after(499, 1), -5);
    }

    private static void meanForEver() {
        say("the most by each move that ONE can be sure of for ever, OTHER wanting it least");
        OneMark x = board(new int[][] {{ONE, 0}, {ONE, 0}, {OTHER, 0}},
            new int[][] {{0, 0, 1}, {0, 1, -5}, {1, 1, 5}, {2, 2, -1}, {2, 1, -4}});
        meanIs(x, 0, 5, 1);
        meanIs(x, 1, 5, 1);
        meanIs(x, 2, -1, 1);
        x.give(0, OTHER);
        meanIs(x, 0, 1, 1);
        x.give(2, ONE);
        meanIs(x, 2, 5, 1);
        x.set(1, 2, -5);
        meanIs(x, 2, -1, 1);
        meanIs(x, 1, -5, 1);
    }

    private static void meanOfManyPlans() {
        say("the most by each move that ONE can be sure of for ever, OTHER wanting it least: of several ARROWS");
        for (int first = 0; first < 3; first++) {
            OneMark x = board(new int[][] {{ONE, 0}, {ONE, 0}, {ONE, 0}, {ONE, 0}}, new int[][] {{0, 1, 0}, {0, 2, 0}, {0, 3, 0}});
            for (int p = 1; p <= 3; p++) x.arrow(p, p, (p + first) % 3 * 2 - 3);
            meanIs(x, 0, 1, 1);
            x.give(0, OTHER);
            meanIs(x, 0, -3, 1);
            for (int p = 1; p <= 3; p++) x.arrow(p, 0, -5);
            meanIs(x, 0, -5, 2);
            x.give(0, ONE);
            meanIs(x, 0, 1, 1);
            for (int p = 1; p <= 3; p++) x.give(p, OTHER);
            meanIs(x, 0, -5, 2);
        }
    }

    private static void arrowsInAnyOrder() {
        say("THE MARK lies in a PLACE; whose that is moves it by an ARROW from there, of whatever number");
        OneMark x = board(new int[][] {{ONE, 0}, {OTHER, 0}}, new int[][] {{0, 0, 5}, {1, 1, -5}, {0, 1, -4}, {1, 0, 4}});
        due("after(1, 0)", x.after(1, 0), 5);
        due("after(1, 1)", x.after(1, 1), -5);
        due("after(2, 0)", x.after(2, 0), 10);
        meanIs(x, 0, 5, 1);
        meanIs(x, 1, -5, 1);
        due("above 4", Texts.ask(x, "mean 0 above 4"), 1);
        due("below 5", Texts.ask(x, "mean 0 below 5"), 0);
        due("below 0", Texts.ask(x, "mean 1 below 0"), 1);
        x.give(1, ONE);
        meanIs(x, 1, 5, 1);
        due("below 5", Texts.ask(x, "mean 1 below 5"), 0);
        x.give(0, OTHER);
        x.give(1, OTHER);
        meanIs(x, 0, -5, 1);
        due("above 0", Texts.ask(x, "mean 0 above 0"), 0);
    }

    private static void meanEightBelow() {
        say("a fraction with 8 below at most, in lowest terms");
        for (int player = 0; player < 2; player++) {
            for (int n = 1; n <= 8; n++) {
                meanIs(ring(n, player, 1, 0), n - 1, 1, n);
                meanIs(ring(n, player, -1, 0), 0, -1, n);
                meanIs(ring(n, player, 4, 5), 0, 5 * n - 1, n);
                meanIs(ring(n, player, -4, -5), 0, 1 - 5 * n, n);
                meanIs(ring(n, player, 5, 5), 0, 5, 1);
                meanIs(ring(n, player, -5, -5), 0, -5, 1);
                meanIs(ring(n, player, 0, 0), 0, 0, 1);
            }
            meanIs(ring(8, player, 4, 0), 0, 1, 2);
            meanIs(ring(8, player, -2, 0), 5, -1, 4);
            meanIs(ring(6, player, -3, 0), 5, -1, 2);
            meanIs(ring(6, player, 4, 0), 5, 2, 3);
        }
    }

    private static void rates() {
        say("how often by each move that PLAYER can be sure for ever that THE MARK is moved from a PLACE of the set");
        OneMark ring = Boards.ring();
        for (int a = 0; a < 8; a++) ring.set(1, a, -5);
        int[][] lowest = {{0, 1}, {1, 8}, {1, 4}, {3, 8}, {1, 2}, {5, 8}, {3, 4}, {7, 8}, {1, 1}};
        for (int k = 0; k <= 8; k++) {
            rateIs(ring, ONE, (1 << k) - 1, 7 - k / 2, lowest[k][0], lowest[k][1]);
            rateIs(ring, OTHER, (1 << k) - 1, k / 2, lowest[k][0], lowest[k][1]);
        }
        meanIs(ring, 0, -5, 1);
        say("(also where it stays), else 0; for OTHER likewise, the PLAYERS changed about");
        OneMark row = Boards.row(2, OTHER);
        rateIs(row, ONE, 2, 0, 1, 1);
        rateIs(row, OTHER, 2, 0, 1, 1);
        rateIs(row, ONE, 1, 0, 0, 1);
        row.arrow(0, 0, 5);
        rateIs(row, ONE, 2, 0, 0, 1);
        rateIs(row, OTHER, 2, 0, 1, 1);
        rateIs(row, OTHER, 1, 0, 1, 1);
        rateIs(row, ONE, 1, 0, 0, 1);
        row.give(0, ONE);
        rateIs(row, ONE, 1, 0, 1, 1);
        rateIs(row, OTHER, 1, 0, 0, 1);
    }

    private static void toldNoneAtFirst() {
        say("For a PLACE an ARROW there may be TOLD (none at first)");
        OneMark x = twenty();
        due("count(3)", x.count(3), 0);
        for (int p = 0; p < 8; p++) {
            due("untell", x.untell(p), NOT);
            due("tell", x.tell(p), NONE);
            due("tell another one there", x.tell(8 + p), p);
            due("count(3)", x.count(3), p + 1);
        }
        due("tell the last arrow", x.tell(19), 11);
        due("tell it again", x.tell(19), 19);
        for (int p = 0; p < 8; p++) {
            due("untell", x.untell(p), p == 3 ? 19 : 8 + p);
            due("untell again", x.untell(p), NOT);
            due("count(3)", x.count(3), 7 - p);
        }
        OneMark y = twenty();
        y.tell(2);
        due("give", y.give(2, OTHER), ONE);
        due("told goes with the place", y.untell(2), 2);
    }

    private static void judgedAsToldOrLiked() {
        say("it moves from its PLACES by what is TOLD; the other moves as it likes, also from PLACES of the first with ARROWS "
            + "for which none is TOLD");
        OneMark x = board(new int[][] {{ONE, 0}, {ONE, 1}}, new int[][] {{0, 0, 0}, {0, 1, 0}});
        due("none is told", x.judged(ONE), 0);
        due("none is told, for OTHER", x.judged(OTHER), 2);
        x.tell(0);
        due("told to stay", x.judged(ONE), 1);
        due("the other as it likes", x.judged(OTHER), 2);
        x.tell(1);
        due("told to go", x.judged(ONE), 0);
        due("the other as it likes", x.judged(OTHER), 2);
        x.give(0, OTHER);
        due("now it is OTHER's", x.judged(OTHER), 3);
        due("who moves as it likes", x.judged(ONE), 0);
        x.tell(0);
        due("though told to stay", x.judged(ONE), 0);
        due("as told", x.judged(OTHER), 2);
        x.untell(0);
        due("none is told any more", x.judged(OTHER), 2);
        say("PLACES from which no loop can be come to whose least NUMBER is odd (for ONE; even for OTHER) are RIGHT");
        OneMark ring = Boards.ring();
        due("0 is even", ring.judged(ONE), 255);
        due("0 is even, for OTHER", ring.judged(OTHER), 0);
        for (int p = 0; p < 8; p++) ring.set(0, p, 7);
        due("7 is odd", ring.judged(ONE), 0);
        due("7 is odd, for OTHER", ring.judged(OTHER), 255);
        ring.set(0, 5, 6);
        due("the least is 6", ring.judged(ONE), 255);
        OneMark row = Boards.row(8, ONE);
        for (int p = 0; p < 7; p++) row.set(0, p, 1);
        due("what is not in a loop does not count", row.judged(ONE), 255);
        due("no place", new OneMark().judged(OTHER), 0);
    }

    private static void breakerRows() {
        say("the shortest row of PLACES from it on, all unlike but the last, that is one ahead of it");
        OneMark ring = ring(8, ONE, 0, 0);
        for (int p = 0; p < 8; p++) {
            int[] row = new int[9];
            for (int i = 0; i <= 8; i++) row[i] = (p + i) % 8;
            breakerIs(ring, ONE, p, row);
            breakerIs(ring, OTHER, p);
        }
        OneMark row = Boards.row(8, OTHER);
        breakerIs(row, OTHER, 0, 0, 1, 2, 3, 4, 5, 6, 7, 7);
        breakerIs(row, OTHER, 7, 7, 7);
        breakerIs(row, ONE, 0);
        say("so that from that one on the least NUMBER is so");
        row.set(0, 7, 1);
        breakerIs(row, ONE, 6, 6, 7, 7);
        breakerIs(row, OTHER, 6);
        OneMark x = board(new int[][] {{ONE, 1}, {OTHER, 0}, {ONE, 2}}, new int[][] {{0, 1, 0}, {1, 0, 0}, {0, 2, 0}, {2, 0, 0}});
        breakerIs(x, ONE, 0, 0, 2, 0);
        breakerIs(x, ONE, 1, 1, 0, 2, 0);
        breakerIs(x, OTHER, 2, 2, 0, 1, 0);
        x.tell(0);
        breakerIs(x, ONE, 0);
        due("-1", x.breaker(ONE, 0, -1), OUTSIDE);
        due("the least int", x.breaker(ONE, 0, LEAST), OUTSIDE);
    }

    private static void breakerOfSeveral() {
        say("of several the first (by PLACES)");
        OneMark x = board(new int[][] {{ONE, 1}, {ONE, 1}, {ONE, 1}, {ONE, 1}}, new int[][] {{0, 2, 0}, {0, 1, 0}, {1, 3, 0}, {2, 3, 0}});
        breakerIs(x, ONE, 0, 0, 1, 3, 3);
        x.set(0, 3, 0);
        breakerIs(x, ONE, 0);
        x.arrow(2, 2, 0);
        breakerIs(x, ONE, 0, 0, 2, 2);
        x.arrow(1, 1, 0);
        breakerIs(x, ONE, 0, 0, 1, 1);
        x.arrow(0, 0, 0);
        breakerIs(x, ONE, 0, 0, 0);
        OneMark shorter = board(new int[][] {{OTHER, 0}, {OTHER, 0}, {OTHER, 3}, {OTHER, 3}},
            new int[][] {{0, 1, 0}, {1, 2, 0}, {2, 2, 0}, {0, 3, 0}, {3, 3, 0}});
        breakerIs(shorter, ONE, 0, 0, 3, 3);
        breakerIs(shorter, ONE, 1, 1, 2, 2);
        shorter.arrow(3, 0, 0);
        breakerIs(shorter, OTHER, 0, 0, 3, 0);
    }

    private static void worths() {
        say("for ONE the least of all loops that can be come to, for OTHER the greatest");
        OneMark x = board(new int[][] {{ONE, 0}, {ONE, 0}, {OTHER, 0}},
            new int[][] {{0, 0, -5}, {0, 1, 0}, {1, 1, 5}, {2, 0, 5}, {2, 2, 1}});
        worthIs(x, ONE, 0, -5, 1);
        worthIs(x, OTHER, 0, 5, 1);
        worthIs(x, ONE, 1, 5, 1);
        worthIs(x, ONE, 2, -5, 1);
        worthIs(x, OTHER, 2, 5, 1);
        x.tell(1);
        worthIs(x, ONE, 0, 5, 1);
        worthIs(x, ONE, 2, 1, 1);
        worthIs(x, OTHER, 0, 5, 1);
        x.tell(4);
        worthIs(x, OTHER, 2, 1, 1);
        worthIs(x, ONE, 2, 1, 1);
        x.tell(3);
        worthIs(x, OTHER, 2, 5, 1);
        x.cut(2);
        worthIs(x, ONE, 0, 0, 1);
        worthIs(x, OTHER, 0, 0, 1);
    }

    private static void worthEightBelow() {
        say("of WEIGHTS together by the number of moves, in lowest terms");
        for (int player = 0; player < 2; player++) {
            for (int n = 1; n <= 8; n++) {
                worthIs(ring(n, 1 - player, 1, 0), player, n - 1, 1, n);
                worthIs(ring(n, player, -1, 0), player, 0, -1, n);
                worthIs(ring(n, player, 4, 5), player, 0, 5 * n - 1, n);
                worthIs(ring(n, 1 - player, -4, -5), player, 0, 1 - 5 * n, n);
            }
            worthIs(ring(8, player, -4, 0), player, 3, -1, 2);
            worthIs(ring(8, player, 0, 0), player, 3, 0, 1);
            worthIs(ring(6, player, 4, 0), player, 5, 2, 3);
        }
    }
}
