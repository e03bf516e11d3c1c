/** Boards to begin with, and all that can be seen of one. */
public final class Boards {
    public static final String FULL_TEXT = "    one again 0 7 from 0 or not (mean 7 below 3 and mean 0 above 1)"
        + " and other keeps 0 1 2 3 4 5 6 from 6 or even from 00";

    private Boards() {
    }

    /** Places by rows {player, number}, arrows by rows {from, to, weight}. */
    public static OneMark of(int[][] places, int[][] arrows) {
        OneMark x = new OneMark();
        for (int[] p : places) x.place(p[0], p[1]);
        for (int[] a : arrows) x.arrow(a[0], a[1], a[2]);
        return x;
    }

    /** Places of one player, all with NUMBER 0, each with an arrow of weight 0 to the next one but the last. */
    public static OneMark row(int places, int player) {
        OneMark x = new OneMark();
        for (int p = 0; p < places; p++) x.place(player, 0);
        for (int p = 0; p + 1 < places; p++) x.arrow(p, p + 1, 0);
        return x;
    }

    /** A row of all eight, by turns of ONE and OTHER, whose last place goes to the first one. */
    public static OneMark ring() {
        OneMark x = new OneMark();
        for (int p = 0; p < 8; p++) x.place(p & 1, 0);
        for (int p = 0; p < 8; p++) x.arrow(p, (p + 1) % 8, 0);
        return x;
    }

    /** Three places and four arrows, two of them told; asked is one question, the text has a fault at its end. */
    public static OneMark some() {
        OneMark x = of(new int[][] {{0, 1}, {1, 2}, {0, 4}}, new int[][] {{0, 1, 2}, {0, 2, -1}, {1, 0, -4}, {1, 2, 3}});
        x.tell(1);
        x.tell(2);
        Texts.ask(x, "one forces 2 from 1 and not other keeps 0 1 from 1");
        Texts.write(x, "even from 0 or");
        return x;
    }

    /** Eight places, twenty arrows, 120 bytes without a fault; asked and told is something, too. */
    public static OneMark full() {
        OneMark x = new OneMark();
        for (int p = 0; p < 8; p++) x.place(p & 1, p);
        for (int a = 0; a < 20; a++) x.arrow(a % 8, (a * 3 + a / 8 + 1) % 8, a % 11 - 5);
        x.tell(3);
        x.tell(18);
        Texts.ask(x, "even from 7 or mean 2 above 0");
        Texts.write(x, FULL_TEXT);
        return x;
    }

    /** All that can be seen by some 200 calls at most: the board, what is told, the question, the text. */
    public static String seen(OneMark x) {
        StringBuilder out = new StringBuilder("counts");
        for (int what = 0; what <= 5; what++) out.append(' ').append(x.count(what));
        seePlaces(x, out);
        seeArrows(x, out);
        out.append(" question ").append(x.holds()).append(' ').append(x.turned()).append(' ').append(x.bought());
        out.append(" text ").append(x.fault());
        Texts.write(x, " even from 0");
        out.append(' ').append(x.fault()).append(' ').append(x.ask()).append(' ').append(x.count(5));
        out.append(' ').append(x.turned()).append(' ').append(x.bought());
        return out.toString();
    }

    private static void seePlaces(OneMark x, StringBuilder out) {
        int places = x.count(0);
        for (int p = 0; p < places; p++) {
            int player = x.give(p, 0);
            x.give(p, player);
            int number = x.set(0, p, 0);
            x.set(0, p, number);
            int told = x.untell(p);
            if (told >= 0) x.tell(told);
            out.append(" place ").append(player).append(' ').append(number).append(' ').append(told);
        }
    }

    private static void seeArrows(OneMark x, StringBuilder out) {
        int places = x.count(0);
        for (int a = 0; a < places; a++) {
            for (int b = 0; b < places; b++) {
                int arrow = x.from(a, b);
                if (arrow < 0) continue;
                int weight = x.set(1, arrow, 0);
                x.set(1, arrow, weight);
                out.append(" arrow ").append(arrow).append(' ').append(a).append(' ').append(b).append(' ').append(weight);
            }
        }
    }
}
