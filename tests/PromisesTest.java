/** One method for each promise: ordinary calls, the edges that the document names, and refused calls. */
public final class PromisesTest {
    private static final Checks CHECKS = new Checks();
    private static final int LEAST = Integer.MIN_VALUE, MOST = Integer.MAX_VALUE;
    private static final int NONE = OneMark.NONE, UNKNOWN = OneMark.UNKNOWN, OUTSIDE = OneMark.OUTSIDE;
    private static final int NOT = OneMark.NOT, FULL = OneMark.FULL;

    public static void main(String[] args) {
        promise1NewObject();
        promise2Place();
        promise3Arrow();
        promise4Cut();
        promise5Give();
        promise6Set();
        promise7From();
        promise8Forced();
        promise9Steps();
        promise10Kept();
        promise11Again();
        promise12Both();
        promise13Won();
        promise14Plan();
        promise15After();
        promise16Mean();
        promise17Rate();
        promise18Tell();
        promise19Untell();
        promise20Judged();
        promise21Breaker();
        promise22Worth();
        promise23Write();
        promise24Erase();
        promise25Fault();
        promise26Ask();
        promise27Holds();
        promise28Turned();
        promise29Bought();
        promise30Count();
        CHECKS.end("PromisesTest");
    }

    private static void due(String call, long got, long want) {
        CHECKS.due(call, got, want);
    }

    /** Places by rows {player, number}, arrows by rows {from, to, weight}. */
    private static OneMark board(int[][] places, int[][] arrows) {
        OneMark x = new OneMark();
        for (int[] p : places) x.place(p[0], p[1]);
        for (int[] a : arrows) x.arrow(a[0], a[1], a[2]);
        return x;
    }

    /** ONE at 0 chooses between 1 (OTHER's, to 0 or 2) and 2 (ONE's, stays: no arrows). */
    private static OneMark fork() {
        return board(new int[][] {{0, 1}, {1, 2}, {0, 3}}, new int[][] {{0, 1, 2}, {0, 2, -1}, {1, 0, -4}, {1, 2, 3}});
    }

    private static void promise1NewObject() {
        OneMark x = new OneMark();
        for (int what = 0; what <= 5; what++) due("1: count " + what, x.count(what), 0);
        due("1: won", x.won(), 0);
        due("1: forced", x.forced(0, 0), 0);
        due("1: kept", x.kept(1, 0), 0);
        due("1: both", x.both(1, 0, 0), 0);
        due("1: judged", x.judged(0), 0);
        due("1: holds", x.holds(), NOT);
        due("1: turned", x.turned(), NOT);
        due("1: bought", x.bought(), NOT);
        due("1: fault", x.fault(), 0);
        due("1: NONE", NONE, -1);
        due("1: UNKNOWN", UNKNOWN, -2);
        due("1: OUTSIDE", OUTSIDE, -3);
        due("1: NOT", NOT, -4);
        due("1: FULL", FULL, -5);
    }

    private static void promise2Place() {
        OneMark x = new OneMark();
        due("2: player 2", x.place(2, 8), UNKNOWN);
        due("2: player -1", x.place(-1, 0), UNKNOWN);
        due("2: number 8", x.place(0, 8), OUTSIDE);
        due("2: number -1", x.place(1, -1), OUTSIDE);
        due("2: refused, nothing changes", x.count(0), 0);
        for (int p = 0; p < 8; p++) due("2: place", x.place(p & 1, p), p);
        due("2: full", x.place(0, 0), FULL);
        due("2: number ahead of full", x.place(0, 8), OUTSIDE);
        due("2: player ahead of full", x.place(2, 0), UNKNOWN);
        due("2: still 8", x.count(0), 8);
        due("2: owners", x.count(2), 4);
        for (int p = 0; p < 8; p++) due("2: its number", x.set(0, p, 0), p);
    }

    private static void promise3Arrow() {
        OneMark x = new OneMark();
        due("3: no places", x.arrow(0, 0, 0), UNKNOWN);
        for (int p = 0; p < 8; p++) x.place(0, 0);
        due("3: from 8", x.arrow(8, 0, 0), UNKNOWN);
        due("3: to -1", x.arrow(0, -1, 9), UNKNOWN);
        due("3: weight 6", x.arrow(0, 1, 6), OUTSIDE);
        due("3: weight -6", x.arrow(0, 1, -6), OUTSIDE);
        due("3: first", x.arrow(0, 1, 5), 0);
        due("3: there is one", x.arrow(0, 1, 4), NOT);
        due("3: weight ahead of there is one", x.arrow(0, 1, 6), OUTSIDE);
        due("3: the other way", x.arrow(1, 0, -5), 1);
        due("3: to itself", x.arrow(3, 3, 0), 2);
        due("3: to itself again", x.arrow(3, 3, 0), NOT);
        for (int a = 3; a < 20; a++) due("3: arrow", x.arrow(4 + a / 8, a % 8, 0), a);
        due("3: full", x.arrow(2, 2, 0), FULL);
        due("3: there is one ahead of full", x.arrow(0, 1, 0), NOT);
        due("3: weight ahead of full", x.arrow(2, 2, 7), OUTSIDE);
        due("3: still 20", x.count(1), 20);
        due("3: its weight", x.set(1, 0, 0), 5);
    }

    private static void promise4Cut() {
        OneMark x = fork();
        due("4: -1", x.cut(-1), UNKNOWN);
        due("4: 4", x.cut(4), UNKNOWN);
        x.tell(1);
        x.tell(3);
        due("4: cut 0", x.cut(0), 3);
        due("4: is no more", x.from(0, 1), NONE);
        due("4: those behind", x.from(1, 2), 2);
        due("4: weight goes along", x.set(1, 2, 3), 3);
        due("4: told goes along", x.tell(2), 2);
        due("4: told goes along for 0", x.untell(0), 0);
        due("4: cut what is told", x.cut(2), 2);
        due("4: NONE for this", x.untell(1), NOT);
        due("4: count told", x.count(3), 0);
        due("4: no longer", x.cut(2), UNKNOWN);
    }

    private static void promise5Give() {
        OneMark x = fork();
        due("5: place 3", x.give(3, 0), UNKNOWN);
        due("5: player 2", x.give(0, 2), UNKNOWN);
        due("5: player -1", x.give(0, -1), UNKNOWN);
        due("5: to OTHER", x.give(0, 1), 0);
        due("5: to OTHER again", x.give(0, 1), 1);
        due("5: back", x.give(0, 0), 1);
        due("5: count", x.count(2), 2);
    }

    private static void promise6Set() {
        OneMark x = fork();
        due("6: number", x.set(0, 0, 7), 1);
        due("6: number again", x.set(0, 0, 0), 7);
        due("6: weight", x.set(1, 2, 5), -4);
        due("6: weight again", x.set(1, 2, -5), 5);
        due("6: place 3", x.set(0, 3, 0), LEAST);
        due("6: arrow 4", x.set(1, 4, 0), LEAST);
        due("6: arrow -1", x.set(1, -1, 0), LEAST);
        due("6: number 8", x.set(0, 0, 8), LEAST);
        due("6: number -1", x.set(0, 0, -1), LEAST);
        due("6: weight 6", x.set(1, 0, 6), LEAST);
        due("6: weight -6", x.set(1, 0, -6), LEAST);
        due("6: what 2", x.set(2, 0, 0), LEAST);
        due("6: what -1", x.set(-1, 0, 0), LEAST);
        due("6: refused, nothing changes", x.set(0, 0, 1), 0);
        due("6: refused, nothing changes for 1", x.set(1, 0, 1), 2);
    }

    private static void promise7From() {
        OneMark x = fork();
        due("7: there", x.from(1, 2), 3);
        due("7: not back", x.from(2, 1), NONE);
        due("7: no loop", x.from(2, 2), NONE);
        x.arrow(2, 2, 0);
        due("7: a loop", x.from(2, 2), 4);
        due("7: place 3", x.from(3, 0), UNKNOWN);
        due("7: place -1", x.from(0, -1), UNKNOWN);
    }

    private static void promise8Forced() {
        OneMark x = fork();
        due("8: ONE into 2", x.forced(0, 4), 5 | 2);
        due("8: OTHER into 2: ONE has no way out", x.forced(1, 4), 7);
        due("8: ONE into 0", x.forced(0, 1), 1);
        due("8: OTHER into 0", x.forced(1, 1), 3);
        due("8: into none", x.forced(0, 0), 0);
        due("8: into all", x.forced(0, 7), 7);
        due("8: player", x.forced(2, 8), UNKNOWN);
        due("8: bits of no places", x.forced(0, 8), OUTSIDE);
        due("8: least int", x.forced(0, LEAST), OUTSIDE);
        due("8: all bits", x.forced(1, -1), OUTSIDE);
    }

    private static void promise9Steps() {
        OneMark x = fork();
        due("9: at once", x.steps(0, 4, 2), 0);
        due("9: one move", x.steps(0, 4, 0), 1);
        due("9: the other holds back", x.steps(0, 4, 1), 2);
        due("9: by the other", x.steps(1, 4, 1), 1);
        due("9: ONE holds back", x.steps(1, 4, 0), 2);
        due("9: not forced", x.steps(0, 1, 1), NONE);
        due("9: player", x.steps(2, 8, 0), UNKNOWN);
        due("9: place", x.steps(0, 8, 3), UNKNOWN);
        due("9: bits", x.steps(0, 8, 0), OUTSIDE);
        OneMark row = new OneMark();
        for (int p = 0; p < 8; p++) row.place(p & 1, 0);
        for (int p = 0; p < 7; p++) row.arrow(p, p + 1, 0);
        due("9: the longest", row.steps(0, 128, 0), 7);
    }

    private static void promise10Kept() {
        OneMark x = fork();
        due("10: where it stays", x.kept(0, 4), 4);
        due("10: ONE in 0 and 2", x.kept(0, 5), 5);
        due("10: ONE in 0 and 1", x.kept(0, 3), 0);
        due("10: OTHER in 0 and 1", x.kept(1, 3), 0);
        due("10: OTHER in 1 and 2", x.kept(1, 6), 6);
        due("10: in all", x.kept(1, 7), 7);
        due("10: in none", x.kept(1, 0), 0);
        due("10: player", x.kept(-1, 0), UNKNOWN);
        due("10: bits", x.kept(0, 8), OUTSIDE);
    }

    private static void promise11Again() {
        OneMark x = fork();
        due("11: ONE at 2", x.again(0, 4), 7);
        due("11: ONE at 0", x.again(0, 1), 0);
        due("11: OTHER at 0", x.again(1, 1), 0);
        x.cut(1);
        due("11: OTHER at 0 without an arrow", x.again(1, 1), 3);
        due("11: ONE at 0 without an arrow", x.again(0, 1), 0);
        due("11: none", x.again(0, 0), 0);
        due("11: player", x.again(2, 9), UNKNOWN);
        due("11: bits", x.again(0, 8), OUTSIDE);
    }

    private static void promise12Both() {
        OneMark x = board(new int[][] {{0, 0}, {1, 0}, {1, 0}},
            new int[][] {{0, 1, 0}, {0, 2, 0}, {1, 0, 0}, {2, 0, 0}});
        due("12: by turns", x.both(0, 2, 4), 7);
        due("12: not by the other", x.both(1, 2, 4), 0);
        due("12: the same twice", x.both(1, 1, 1), 7);
        due("12: one is empty", x.both(0, 0, 7), 0);
        due("12: two is empty", x.both(0, 7, 0), 0);
        x.arrow(2, 2, 0);
        due("12: held at 2", x.both(0, 2, 4), 0);
        due("12: player", x.both(2, 8, 8), UNKNOWN);
        due("12: bits of one", x.both(0, 8, 0), OUTSIDE);
        due("12: bits of two", x.both(0, 0, -8), OUTSIDE);
    }

    private static void promise13Won() {
        OneMark x = fork();
        due("13: all odd where it stays", x.won(), 0);
        x.set(0, 2, 4);
        due("13: even where it stays", x.won(), 7);
        x.give(0, 1);
        due("13: OTHER goes round by 1", x.won(), 4);
        x.set(0, 0, 2);
        due("13: the least is 2", x.won(), 7);
        due("13: no place", new OneMark().won(), 0);
    }

    private static void promise14Plan() {
        OneMark x = fork();
        due("14: lost", x.plan(0), NONE);
        due("14: OTHER's least arrow", x.plan(1), 2);
        due("14: no arrows", x.plan(2), NONE);
        x.set(0, 2, 4);
        due("14: 0 -> 1 wins nothing for sure", x.plan(0), 1);
        due("14: OTHER has lost", x.plan(1), NONE);
        due("14: -1", x.plan(-1), UNKNOWN);
        due("14: 3", x.plan(3), UNKNOWN);
        OneMark two = board(new int[][] {{0, 2}, {0, 2}, {0, 0}},
            new int[][] {{0, 1, 0}, {0, 2, 0}, {1, 0, 0}, {1, 2, 0}, {2, 1, 0}});
        two.set(0, 0, 3);
        two.set(0, 1, 3);
        due("14: least at 0", two.plan(0), 0);
        due("14: as chosen ahead", two.plan(1), 3);
        due("14: at 2", two.plan(2), 4);
    }

    private static void promise15After() {
        OneMark x = fork();
        due("15: 0 moves", x.after(0, 0), 0);
        due("15: 1 move", x.after(1, 0), 2);
        due("15: OTHER's move", x.after(1, 1), -4);
        due("15: 2 moves", x.after(2, 0), -1);
        due("15: where it stays", x.after(500, 2), 0);
        due("15: 501", x.after(501, 0), LEAST);
        due("15: -1", x.after(-1, 0), LEAST);
        due("15: place", x.after(1, 3), LEAST);
        OneMark loop = board(new int[][] {{1, 0}}, new int[][] {{0, 0, -5}});
        due("15: 500 moves", loop.after(500, 0), -2500);
    }

    private static void promise16Mean() {
        OneMark x = fork();
        due("16: stays", x.mean(0, 0), 0);
        due("16: below is 1", x.mean(0, 1), 1);
        x.cut(1);
        due("16: round or to 2", x.mean(0, 0), -1);
        due("16: below", x.mean(0, 1), 1);
        x.set(1, 0, 3);
        due("16: in lowest terms", x.mean(1, 0), -1);
        due("16: two below", x.mean(1, 1), 2);
        due("16: part 2", x.mean(0, 2), LEAST);
        due("16: part -1", x.mean(0, -1), LEAST);
        due("16: place", x.mean(3, 0), LEAST);
        OneMark ring = new OneMark();
        for (int p = 0; p < 8; p++) ring.place(p & 1, 0);
        for (int p = 0; p < 8; p++) ring.arrow(p, (p + 1) % 8, p == 3 ? 5 : 0);
        due("16: of eight", ring.mean(6, 0), 5);
        due("16: eight below", ring.mean(6, 1), 8);
        ring.set(1, 4, 1);
        due("16: 6 of 8", ring.mean(0, 0), 3);
        due("16: 4 below", ring.mean(0, 1), 4);
    }

    private static void promise17Rate() {
        OneMark x = fork();
        due("17: where it stays", x.rate(0, 4, 0, 0), 1);
        due("17: ONE can't be sure", x.rate(0, 3, 0, 0), 0);
        x.give(2, 1);
        due("17: for OTHER", x.rate(1, 2, 0, 0), 0);
        x.cut(1);
        due("17: for OTHER without an arrow", x.rate(1, 2, 0, 0), 1);
        due("17: each second move", x.rate(1, 2, 0, 1), 2);
        due("17: for ONE without an arrow", x.rate(0, 2, 0, 0), 0);
        due("17: none", x.rate(0, 0, 0, 1), 1);
        due("17: all", x.rate(0, 7, 1, 0), 1);
        due("17: player", x.rate(2, 0, 0, 0), LEAST);
        due("17: bits", x.rate(0, 8, 0, 0), LEAST);
        due("17: place", x.rate(0, 0, 3, 0), LEAST);
        due("17: part", x.rate(0, 0, 0, 2), LEAST);
        due("17: weights are as before", x.mean(0, 0), -1);
    }

    private static void promise18Tell() {
        OneMark x = fork();
        due("18: none yet", x.tell(2), NONE);
        due("18: that which was", x.tell(3), 2);
        due("18: another place", x.tell(0), NONE);
        due("18: the same", x.tell(3), 3);
        due("18: 4", x.tell(4), UNKNOWN);
        due("18: -1", x.tell(-1), UNKNOWN);
        due("18: count", x.count(3), 2);
    }

    private static void promise19Untell() {
        OneMark x = fork();
        due("19: none is", x.untell(1), NOT);
        x.tell(3);
        due("19: that which was", x.untell(1), 3);
        due("19: none is any more", x.untell(1), NOT);
        due("19: 3", x.untell(3), UNKNOWN);
        due("19: -1", x.untell(-1), UNKNOWN);
    }

    private static void promise20Judged() {
        OneMark x = fork();
        due("20: odd where it stays", x.judged(0), 0);
        due("20: no even loop", x.judged(1), 7);
        x.set(0, 2, 4);
        due("20: an odd loop", x.judged(0), 4);
        x.tell(1);
        due("20: told", x.judged(0), 7);
        due("20: not told for OTHER", x.judged(1), 0);
        x.untell(0);
        x.tell(2);
        due("20: told for OTHER, ONE as it likes", x.judged(1), 0);
        due("20: by OTHER's telling ONE is not bound", x.judged(0), 4);
        due("20: player", x.judged(2), UNKNOWN);
    }

    private static void promise21Breaker() {
        OneMark x = fork();
        x.set(0, 2, 4);
        int[] row = {0, 1, 0, NONE, NONE};
        for (int i = 0; i < row.length; i++) due("21: from 0, " + i, x.breaker(0, 0, i), row[i]);
        due("21: right", x.breaker(0, 2, 0), NONE);
        due("21: OTHER's at 2", x.breaker(1, 2, 1), 2);
        int[] other = {1, 2, 2, NONE};
        for (int i = 0; i < other.length; i++) due("21: OTHER's from 1, " + i, x.breaker(1, 1, i), other[i]);
        due("21: most", x.breaker(0, 0, MOST), NONE);
        due("21: i", x.breaker(0, 0, -1), OUTSIDE);
        due("21: player ahead of i", x.breaker(2, 0, -1), UNKNOWN);
        due("21: place", x.breaker(0, 3, 0), UNKNOWN);
        OneMark ring = new OneMark();
        for (int p = 0; p < 8; p++) ring.place(p & 1, 7);
        for (int p = 0; p < 8; p++) ring.arrow(p, (p + 1) % 8, 0);
        for (int i = 0; i < 8; i++) due("21: the longest row", ring.breaker(0, 5, i), (5 + i) % 8);
        due("21: its last", ring.breaker(0, 5, 8), 5);
        due("21: no more", ring.breaker(0, 5, 9), NONE);
    }

    private static void promise22Worth() {
        OneMark x = fork();
        due("22: least loop", x.worth(0, 0, 0), -1);
        due("22: below", x.worth(0, 0, 1), 1);
        due("22: greatest loop", x.worth(1, 0, 0), 0);
        x.set(1, 0, 5);
        due("22: greatest loop by 2", x.worth(1, 0, 0), 1);
        due("22: 2 below", x.worth(1, 0, 1), 2);
        x.tell(3);
        due("22: told for OTHER", x.worth(1, 0, 0), 0);
        due("22: told for OTHER, not for ONE", x.worth(0, 0, 0), 0);
        due("22: player", x.worth(2, 0, 0), LEAST);
        due("22: place", x.worth(0, -1, 0), LEAST);
        due("22: part", x.worth(0, 0, 2), LEAST);
    }

    private static void promise23Write() {
        OneMark x = new OneMark();
        due("23: n 0", x.write(0, 0), OUTSIDE);
        due("23: n 9", x.write(0, 9), OUTSIDE);
        due("23: n least", x.write(0, LEAST), OUTSIDE);
        due("23: one", x.write(-1L, 1), 1);
        for (int i = 0; i < 14; i++) due("23: eight", x.write(0x2020202020202020L, 8), 9 + 8 * i);
        due("23: too many", x.write(0, 8), FULL);
        due("23: n ahead of full", x.write(0, 10), OUTSIDE);
        due("23: the last", x.write(0, 7), 120);
        due("23: full", x.write(0, 1), FULL);
        due("23: full, nothing changes", x.count(4), 120);
        due("23: a byte of 255 is no blank", x.fault(), 0);
        x.erase();
        x.write(0x6500202020202020L, 8);
        due("23: byte 6 is 0", x.fault(), 6);
    }

    private static void promise24Erase() {
        OneMark x = new OneMark();
        due("24: empty", x.erase(), 0);
        x.write(0, 5);
        due("24: five", x.erase(), 5);
        due("24: is empty then", x.count(4), 0);
        due("24: again", x.erase(), 0);
    }

    private static void promise25Fault() {
        OneMark x = fork();
        String[] right = {"even from 0", "one forces 0 from 1", "other keeps 0 1 2 from 2", "one again 01 1 02 from 00",
            "not not even from 2", "((even from 0))", "mean 0 above 99", "mean 0 below 00", "mean0above1or mean2below7",
            "not(even from 0 or even from 1)and mean 1 above 0", "   even   from   1   "};
        for (String text : right) due("25: " + text, Texts.faultOf(x, text), NONE);
        Object[][] wrong = {{"", 0}, {"   ", 3}, {"even from 3", 10}, {"even from 001", 10}, {"even from", 9},
            {"even from ", 10}, {"mean 0 above 100", 13}, {"mean 0 above", 12}, {"mean 0 over 1", 7}, {"mean 3 above 1", 5},
            {"one forces from 0", 11}, {"one forces 0 0", 14}, {"one forces 0 3 from 0", 13}, {"one even", 4},
            {"not", 3}, {"and", 0}, {"(even from 0", 12}, {"even from 0)", 11}, {"even from 0 even", 12},
            {"even from 0 or", 14}, {"even from 0 and or", 16}, {"()", 1}, {"Even from 0", 0}, {"even from 0 0", 12},
            {"even from 0.", 11}, {"evenfrom 0", 0}, {"even from0 not", 11}, {"one forces 12 from 0", 11},
            {"mean 0 above -1", 13}, {"even from 0\t", 11}, {"notone", 0}, {"evenz from 0", 0}, {"even from z", 10}, {"even azfrom 0", 5}, {"((((((((", 8}, {"other keeps 0 and", 14}};
        for (Object[] row : wrong) due("25: " + row[0], Texts.faultOf(x, (String) row[0]), (Integer) row[1]);
        x.place(0, 0);
        due("25: a place that is there now", Texts.faultOf(x, "even from 3"), NONE);
        due("25: deep", Texts.faultOf(x, "(".repeat(120)), 120);
        String deep = "(".repeat(55) + "even from0" + ")".repeat(55);
        due("25: deep and closed", Texts.faultOf(x, deep), NONE);
    }

    private static void promise26Ask() {
        OneMark x = fork();
        due("26: empty", x.ask(), NOT);
        Texts.write(x, "even from 0 or");
        due("26: a fault", x.ask(), NOT);
        due("26: refused, nothing changes", x.count(4), 14);
        due("26: nothing is asked", x.holds(), NOT);
        x.erase();
        Texts.write(x, "one forces 2 from 0");
        due("26: holds", x.ask(), 1);
        due("26: is empty then", x.count(4), 0);
        due("26: not before or", Texts.ask(x, "not one forces 2 from 0 or one forces 2 from 0"), 1);
        due("26: and ahead of or", Texts.ask(x, "one forces 2 from 0 or even from 0 and even from 0"), 1);
        due("26: parentheses", Texts.ask(x, "(one forces 2 from 0 or even from 0) and even from 0"), 0);
        due("26: not of parentheses", Texts.ask(x, "not (even from 0 and even from 1)"), 1);
        due("26: keeps", Texts.ask(x, "one keeps 0 2 from 0 and not one keeps 0 1 from 0"), 1);
        due("26: again", Texts.ask(x, "one again 2 from 1 and not other again 0 from 1"), 1);
        due("26: mean is not above", Texts.ask(x, "mean 0 above 0"), 0);
        due("26: mean is not below", Texts.ask(x, "mean 0 below 0"), 0);
        due("26: mean is below", Texts.ask(x, "mean 0 below 1"), 1);
        Texts.write(x, "even from 9");
        due("26: a faulty one", x.ask(), NOT);
        due("26: the former one is asked still", x.holds(), 1);
        due("26: and counted", x.count(5), 1);
    }

    private static void promise27Holds() {
        OneMark x = fork();
        due("27: nothing is asked", x.holds(), NOT);
        due("27: ask", Texts.ask(x, "even from 0"), 0);
        due("27: 0", x.holds(), 0);
        x.set(0, 2, 4);
        due("27: now", x.holds(), 1);
        x.cut(1);
        due("27: no longer", x.holds(), 0);
        x.erase();
        due("27: erase is of the text", x.holds(), 0);
        Texts.write(x, "not");
        due("27: fault", x.fault(), 3);
        due("27: reading leaves the question", x.holds(), 0);
    }

    private static void promise28Turned() {
        OneMark x = fork();
        due("28: nothing is asked", x.turned(), NOT);
        due("28: ask", Texts.ask(x, "one forces 2 from 0"), 1);
        due("28: the arrow to 2", x.turned(), 2);
        due("28: ask", Texts.ask(x, "one forces 1 from 1 or even from 1"), 1);
        due("28: none", x.turned(), 0);
        due("28: ask", Texts.ask(x, "other again 0 from 1"), 0);
        due("28: would without 0 -> 2", x.turned(), 2);
        due("28: the board is as before", x.count(1), 4);
    }

    private static void promise29Bought() {
        OneMark x = fork();
        due("29: nothing is asked", x.bought(), NOT);
        due("29: ask", Texts.ask(x, "one forces 1 from 2"), 0);
        due("29: no set does", x.bought(), NONE);
        due("29: ask", Texts.ask(x, "one forces 2 from 1"), 1);
        due("29: it holds", x.bought(), 0);
        due("29: ask", Texts.ask(x, "other keeps 0 1 from 0"), 0);
        due("29: place 0", x.bought(), 1);
        due("29: ask", Texts.ask(x, "one forces 0 from 1 and other forces 1 from 0"), 0);
        due("29: two places", x.bought(), 3);
        due("29: the board is as before", x.count(2), 2);
        OneMark same = board(new int[][] {{1, 0}, {1, 0}, {1, 0}},
            new int[][] {{0, 1, 0}, {0, 0, 0}, {1, 2, 0}, {1, 1, 0}, {2, 2, 1}});
        due("29: ask", Texts.ask(same, "one forces 1 from 0 or one forces 2 from 1"), 0);
        due("29: the least of several", same.bought(), 1);
        OneMark few = board(new int[][] {{1, 0}, {1, 0}, {1, 0}, {1, 0}},
            new int[][] {{0, 0, 0}, {0, 3, 0}, {1, 1, 0}, {1, 3, 0}, {2, 2, 0}, {2, 3, 0}});
        due("29: ask", Texts.ask(few, "one forces 3 from 0 and one forces 3 from 1 or one forces 3 from 2"), 0);
        due("29: fewer places ahead of a less number", few.bought(), 4);
        due("29: ask", Texts.ask(few, "one forces 3 from 0 and one forces 3 from 1"), 0);
        due("29: two of four", few.bought(), 3);
        OneMark each = board(new int[][] {{1, 0}, {0, 0}}, new int[][] {{0, 0, 0}, {0, 1, 0}, {1, 0, 0}, {1, 1, 0}});
        due("29: ask", Texts.ask(each, "one forces 1 from 0 and other forces 0 from 1"), 0);
        due("29: all places", each.bought(), 3);
    }

    private static void promise30Count() {
        OneMark x = fork();
        x.tell(0);
        x.write(0, 3);
        int[] due = {3, 4, 2, 1, 3, 0};
        for (int what = 0; what < 6; what++) due("30: count " + what, x.count(what), due[what]);
        due("30: 6", x.count(6), OUTSIDE);
        due("30: -1", x.count(-1), OUTSIDE);
        Texts.ask(x, "not (even from 0 or (mean 0 above 1)) and not not one again 0 1 from 2");
        due("30: units", x.count(5), 3);
        Texts.ask(x, "even from 0 or even from 0");
        due("30: units twice", x.count(5), 2);
    }
}
