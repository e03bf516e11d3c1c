/** The sentences of "Terms", part 4, and of the promises about questions that name a bound or a boundary case. */
public final class TextEdgesTest {
    private static final Checks CHECKS = new Checks();
    private static final int LEAST = Integer.MIN_VALUE;
    private static final int NONE = OneMark.NONE, OUTSIDE = OneMark.OUTSIDE, NOT = OneMark.NOT, FULL = OneMark.FULL;
    private static final int ONE = 0, OTHER = 1;
    private static final long EIGHT_BLANKS = 0x2020202020202020L;

    private static String sentence = "";

    public static void main(String[] args) {
        bytesAtMost();
        roomAgain();
        bytesOfACall();
        bytesAsTokens();
        rowsAsTokens();
        partsAndUnits();
        words();
        wordsOneLetterOff();
        sets();
        bounds();
        aboveAndBelow();
        aboveAfterALongWay();
        placesThatAreNotThere();
        moreThanTwoDigits();
        endsTooSoon();
        firstFault();
        asked();
        askedLast();
        askedAnew();
        turnedBy();
        turnedByEach();
        boughtFewest();
        boughtAll();
        unitsWithout();
        CHECKS.end("TextEdgesTest");
    }

    private static void say(String words) {
        sentence = words;
    }

    private static void due(String call, long got, long want) {
        CHECKS.due("\"" + sentence + "\": " + call, got, want);
    }

    private static void faultIs(int places, String text, int want) {
        OneMark x = new OneMark();
        for (int p = 0; p < places; p++) x.place(ONE, 0);
        Texts.write(x, text);
        due("fault of '" + text + "' with " + places + " places", x.fault(), want);
        due("length of '" + text + "'", x.count(4), text.length());
        due("fault asked for twice", x.fault(), want);
        due("ask '" + text + "'", Math.min(x.ask(), 0), want == NONE ? 0 : NOT);
        due("length after ask", x.count(4), want == NONE ? 0 : text.length());
    }

    private static void bytesAtMost() {
        say("THE TEXT is a row of bytes, 120 at most");
        OneMark x = new OneMark();
        for (int i = 1; i <= 15; i++) due("write 8", x.write(EIGHT_BLANKS, 8), 8 * i);
        for (int n = 1; n <= 8; n++) due("write one more " + n, x.write(EIGHT_BLANKS, n), FULL);
        due("count(4)", x.count(4), 120);
        due("fault", x.fault(), 120);
        due("erase", x.erase(), 120);
        for (int i = 1; i <= 119; i++) due("write 1", x.write(' ', 1), i);
        for (int n = 2; n <= 8; n++) due("write more than there is room for", x.write(EIGHT_BLANKS, n), FULL);
        due("the last", x.write('x', 1), 120);
        due("it is read", x.fault(), 119);
        OneMark y = new OneMark();
        for (int n = 1; n <= 8; n++) {
            y.erase();
            Texts.write(y, " ".repeat(120 - n));
            if (n < 8) due("one too many", y.write(EIGHT_BLANKS, n + 1), FULL);
            due("just so many", y.write(EIGHT_BLANKS, n), 120);
        }
        faultIs(1, " ".repeat(109) + "even from 0", NONE);
        faultIs(1, "even from 0" + " ".repeat(109), NONE);
        faultIs(1, " ".repeat(108) + "even from 0x", 119);
    }

    private static void roomAgain() {
        say("THE TEXT is empty; THE TEXT is ASKED, and is empty then");
        OneMark x = new OneMark();
        x.place(ONE, 0);
        due("erase what is empty", x.erase(), 0);
        Texts.write(x, " ".repeat(120));
        due("erase", x.erase(), 120);
        due("erase again", x.erase(), 0);
        Texts.write(x, "even from 0" + " ".repeat(109));
        due("ask", x.ask(), 1);
        due("count(4)", x.count(4), 0);
        due("erase after ask", x.erase(), 0);
        due("empty: a fault", x.fault(), 0);
        due("room again", Texts.write(x, " ".repeat(120)), 120);
        due("nothing is left of what was", x.fault(), 120);
    }

    private static void bytesOfACall() {
        say("n (1 .. 8) bytes more of THE TEXT, byte i being bytes >> 8 i & 255");
        OneMark x = new OneMark();
        for (int n : new int[] {0, 9, -1, LEAST, Integer.MAX_VALUE}) due("write, " + n, x.write(EIGHT_BLANKS, n), OUTSIDE);
        due("nothing is written", x.count(4), 0);
        for (int n = 1; n <= 8; n++) {
            for (int i = 0; i < 8; i++) {
                x.erase();
                // All blanks but one byte, the top one making the number negative.
                due("write, " + n, x.write(EIGHT_BLANKS ^ (0xDFL << 8 * i), n), n);
                due("byte " + i + " of " + n, x.fault(), i < n ? i : n);
            }
        }
    }

    private static void bytesAsTokens() {
        say("rows of small letters a .. z, rows of digits, any other byte (blanks (32) part them)");
        for (int b = 0; b < 256; b++) {
            String sign = String.valueOf((char) b);
            boolean letter = b >= 'a' && b <= 'z';
            boolean digit = b >= '0' && b <= '9';
            faultIs(1, sign + "even from 0", b == ' ' ? NONE : b == '(' ? 12 : 0);
            faultIs(1, "even" + sign + "from 0", b == ' ' ? NONE : letter ? 0 : 4);
            faultIs(1, "even from" + sign + "0", b == ' ' ? NONE : letter ? 5 : digit && b == '0' ? NONE : 9);
            faultIs(1, "even from 0" + sign, b == ' ' || b == '0' ? NONE : digit ? 10 : 11);
        }
    }

    private static void rowsAsTokens() {
        say("blanks (32) part them");
        faultIs(8, "mean7above99and other keeps0 1 2from7or(even from0)", NONE);
        faultIs(8, "(not(one forces7from0))", NONE);
        faultIs(1, "  even   from   0  ", NONE);
        faultIs(1, "ev en from 0", 0);
        faultIs(1, "evenfrom 0", 0);
        faultIs(1, "noteven from 0", 0);
        faultIs(2, "mean 1 above 1 0", 15);
        faultIs(1, "mean 0 above 10", NONE);
        faultIs(8, "one forces 01 from 0", NONE);
        faultIs(8, "one forces 12 from 0", 11);
        faultIs(8, "one forces 1 2 from 0", NONE);
        faultIs(1, "even from 0or even from 0and even from 0", NONE);
    }

    private static void partsAndUnits() {
        say("A QUESTION is PARTS with or between; a PART is UNITS with and between");
        String u = "even from 0";
        faultIs(1, u, NONE);
        faultIs(1, u + " or " + u + " and " + u + " or " + u, NONE);
        faultIs(1, "or " + u, 0);
        faultIs(1, "and " + u, 0);
        faultIs(1, u + " or or " + u, 15);
        faultIs(1, u + " and and " + u, 16);
        faultIs(1, u + " or and " + u, 15);
        faultIs(1, u + " " + u, 12);
        faultIs(1, u + " not " + u, 12);
        faultIs(1, u + " (" + u + ")", 12);
        say("not UNIT . ( QUESTION )");
        faultIs(1, "not not not " + u, NONE);
        faultIs(1, "not ( " + u + " or " + u + " )", NONE);
        faultIs(1, "not and", 4);
        faultIs(1, "not )", 4);
        faultIs(1, "()", 1);
        faultIs(1, ")", 0);
        faultIs(1, "(" + u + "))", 13);
        faultIs(1, u + ")", 11);
        faultIs(1, "(" + u + " or)", 15);
        faultIs(1, "(" + u + ")(" + u + ")", 13);
        faultIs(1, "(".repeat(55) + "even from0" + ")".repeat(55), NONE);
        faultIs(1, "(".repeat(55) + "even from0" + ")".repeat(54), 119);
        faultIs(1, "(".repeat(54) + "even from0" + ")".repeat(55), 118);
        faultIs(1, "(".repeat(120), 120);
        faultIs(1, "not ".repeat(27) + u, NONE);
        faultIs(1, "not ".repeat(30), 120);
    }

    private static void words() {
        say("P forces S from V . P keeps S from V . P again S from V . even from V . mean V above N . mean V below N "
            + "with P one or other");
        for (String p : new String[] {"one", "other"}) {
            for (String verb : new String[] {"forces", "keeps", "again"}) {
                faultIs(1, p + " " + verb + " 0 from 0", NONE);
                faultIs(1, "not " + p + " " + verb + " 0 from 0", NONE);
                faultIs(1, verb + " 0 from 0", 0);
                faultIs(1, p + " " + verb + "s 0 from 0", p.length() + 1);
            }
            faultIs(1, p + " even from 0", p.length() + 1);
            faultIs(1, p + " mean 0 above 0", p.length() + 1);
            faultIs(1, p + " not forces 0 from 0", p.length() + 1);
            faultIs(1, p + " " + p + " forces 0 from 0", p.length() + 1);
        }
        faultIs(1, "two forces 0 from 0", 0);
        faultIs(1, "0 forces 0 from 0", 0);
        faultIs(1, "even 0", 5);
        faultIs(1, "even from from", 10);
        faultIs(1, "mean from 0 above 0", 5);
        faultIs(1, "mean 0 from 0", 7);
        faultIs(1, "mean 0 0", 7);
        faultIs(1, "mean 0 above below", 13);
        faultIs(1, "mean 0 above mean 0", 13);
        for (String word : new String[] {"not", "and", "or", "one", "other", "from", "forces", "keeps", "again", "even", "mean",
            "above", "below"}) {
            faultIs(1, "even " + word, word.equals("from") ? 9 : 5);
            faultIs(1, word.substring(1) + " from 0", 0);
            faultIs(1, word + "x from 0", 0);
            faultIs(1, Character.toUpperCase(word.charAt(0)) + word.substring(1) + " from 0", 0);
        }
    }

    private static void wordsOneLetterOff() {
        String text = "not one forces 0 from 0 and other keeps 0 from 0 or one again 0 from 0 and even from 0 or mean 0 above 1";
        faultIs(1, text, NONE);
        faultIs(1, text.replace("above", "below"), NONE);
        for (String whole : new String[] {text, text.replace("above", "below")}) {
            int begin = 0;
            for (String word : whole.split(" ")) {
                for (int i = 0; i < word.length() && word.charAt(0) >= 'a'; i++) {
                    faultIs(1, whole.substring(0, begin + i) + "z" + whole.substring(begin + i + 1), begin);
                    faultIs(1, whole.substring(0, begin + i) + "E" + whole.substring(begin + i + 1), begin);
                }
                begin += word.length() + 1;
            }
        }
    }

    private static void sets() {
        say("S one PLACE or more");
        faultIs(8, "one forces from 0", 11);
        faultIs(8, "one forces 0 from 0", NONE);
        faultIs(8, "other keeps 0 1 2 3 4 5 6 7 from 7", NONE);
        faultIs(8, "other again 7 7 0 7 from 7", NONE);
        faultIs(8, "other again 7 and 0 from 7", 14);
        faultIs(8, "one forces 0", 12);
        OneMark x = Boards.row(8, ONE);
        due("the last one", Texts.ask(x, "other forces 7 from 0"), 1);
        due("more than one", Texts.ask(x, "one again 0 7 1 from 0"), 1);
        due("all of them", Texts.ask(x, "one keeps 0 1 2 3 4 5 6 7 from 0"), 1);
        due("all but one", Texts.ask(x, "one keeps 0 1 2 4 5 6 7 from 0"), 0);
        due("from behind it", Texts.ask(x, "one keeps 0 1 2 4 5 6 7 from 4"), 1);
        due("one twice is one", Texts.ask(x, "one again 0 0 from 0"), 0);
    }

    private static void bounds() {
        say("N 0 .. 99");
        for (String side : new String[] {"above ", "below "}) {
            for (int n = 0; n <= 99; n++) faultIs(1, "mean 0 " + side + n, NONE);
            for (String n : new String[] {"00", "01", "09"}) faultIs(1, "mean 0 " + side + n, NONE);
            for (String n : new String[] {"100", "000", "099", "999", "4294967296", "18446744073709551616"}) {
                faultIs(1, "mean 0 " + side + n, 13);
            }
            faultIs(1, "mean 0 " + side + "-1", 13);
            faultIs(1, "mean 0 " + side + "1.5", 14);
        }
        OneMark x = new OneMark();
        x.place(ONE, 0);
        x.arrow(0, 0, 5);
        due("above 99", Texts.ask(x, "mean 0 above 99"), 0);
        due("below 99", Texts.ask(x, "mean 0 below 99"), 1);
        due("above 04", Texts.ask(x, "mean 0 above 04"), 1);
        due("below 06", Texts.ask(x, "mean 0 below 06"), 1);
        due("below 10 is not below 1", Texts.ask(x, "mean 0 below 10"), 1);
        x.set(1, 0, -5);
        due("below 0", Texts.ask(x, "mean 0 below 0"), 1);
        due("above 0", Texts.ask(x, "mean 0 above 0"), 0);
    }

    private static void aboveAndBelow() {
        say("above: greater; below: less");
        for (int player = 0; player < 2; player++) {
            for (int w = 0; w <= 5; w++) {
                OneMark x = new OneMark();
                x.place(player, 0);
                x.arrow(0, 0, w);
                for (int n = 0; n <= 9; n++) {
                    due(w + " above " + n, Texts.ask(x, "mean 0 above " + n), w > n ? 1 : 0);
                    due(w + " below " + n, Texts.ask(x, "mean 0 below " + n), w < n ? 1 : 0);
                }
            }
            OneMark eighth = new OneMark();
            for (int p = 0; p < 8; p++) eighth.place(player, 0);
            for (int p = 0; p < 8; p++) eighth.arrow(p, (p + 1) % 8, p == 0 ? 4 : 5);
            due("39/8 above 4", Texts.ask(eighth, "mean 3 above 4"), 1);
            due("39/8 above 5", Texts.ask(eighth, "mean 3 above 5"), 0);
            due("39/8 below 5", Texts.ask(eighth, "mean 3 below 5"), 1);
            due("39/8 below 4", Texts.ask(eighth, "mean 3 below 4"), 0);
            for (int a = 0; a < 8; a++) eighth.set(1, a, a == 5 ? 1 : 0);
            due("1/8 above 0", Texts.ask(eighth, "mean 0 above 0"), 1);
            eighth.set(1, 5, -1);
            due("-1/8 above 0", Texts.ask(eighth, "mean 0 above 0"), 0);
            due("-1/8 below 0", Texts.ask(eighth, "mean 0 below 0"), 1);
            eighth.set(1, 7, 1);
            due("0 above 0", Texts.ask(eighth, "mean 0 above 0"), 0);
            due("0 below 0", Texts.ask(eighth, "mean 0 below 0"), 0);
        }
    }

    private static void aboveAfterALongWay() {
        say("MEAN: that to which what it has, by the number of moves, comes near in the end");
        OneMark x = Boards.row(8, ONE);
        for (int a = 0; a < 7; a++) x.set(1, a, -5);
        x.arrow(7, 7, 5);
        due("5 is not below 5", Texts.ask(x, "mean 0 below 5"), 0);
        due("5 is above 4", Texts.ask(x, "mean 0 above 4"), 1);
        due("5 is not above 5", Texts.ask(x, "mean 0 above 5"), 0);
        for (int a = 0; a < 7; a++) x.set(1, a, 5);
        x.set(1, 7, 0);
        due("0 is not above 0", Texts.ask(x, "mean 0 above 0"), 0);
        due("0 is not below 0", Texts.ask(x, "mean 0 below 0"), 0);
        due("0 is below 1", Texts.ask(x, "mean 0 below 1"), 1);
        x.set(1, 7, -5);
        due("-5 is below 0", Texts.ask(x, "mean 0 below 0"), 1);
    }

    private static void placesThatAreNotThere() {
        say("(a number of a PLACE that is not there");
        for (int places = 0; places <= 8; places++) {
            for (int p = 0; p < 8; p++) {
                boolean there = p < places;
                faultIs(places, "even from " + p, there ? NONE : 10);
                faultIs(places, "mean " + p + " below 1", there ? NONE : 5);
                faultIs(places, "one forces " + p + " from " + p, there ? NONE : 11);
                if (places == 0) continue;
                faultIs(places, "other keeps 0 " + p + " from 0", there ? NONE : 14);
                faultIs(places, "one again 0 from " + p, there ? NONE : 17);
            }
            for (int n : new int[] {8, 9, 10, 18, 99}) faultIs(places, "even from " + n, 10);
        }
        OneMark x = new OneMark();
        Texts.write(x, "even from 0");
        due("not there yet", x.fault(), 10);
        due("ask", x.ask(), NOT);
        x.place(ONE, 0);
        due("there now", x.fault(), NONE);
        due("ask now", x.ask(), 1);
    }

    private static void moreThanTwoDigits() {
        say("or of more than two digits also");
        for (String n : new String[] {"000", "001", "0000", "100", "4294967296", "0".repeat(50)}) {
            faultIs(8, "even from " + n, 10);
            faultIs(8, "one forces " + n + " from 0", 11);
            faultIs(8, "one forces 0 " + n + " from 0", 13);
            faultIs(8, "one forces 0 from " + n, 18);
            faultIs(8, "mean " + n + " above 1", 5);
            faultIs(8, "mean 0 above " + n, 13);
        }
        faultIs(8, "even from 00", NONE);
        faultIs(8, "even from 07", NONE);
        faultIs(8, "even from 08", 10);
    }

    /** All rows of the first tokens of a text: a + behind those that may end there. */
    private static void endsTooSoon() {
        say("or at the end, if it comes too soon");
        String[] tokens = {"not", "(", "one", "forces", "0", "1", "from", "0", "or", "mean", "1", "above", "7", ")+", "and",
            "other", "keeps", "1", "from", "1+", "or", "even", "from", "0+"};
        faultIs(2, "", 0);
        faultIs(2, "  ", 2);
        StringBuilder text = new StringBuilder();
        for (String token : tokens) {
            boolean mayEnd = token.endsWith("+");
            text.append(mayEnd ? token.substring(0, token.length() - 1) : token);
            faultIs(2, text.toString(), mayEnd ? NONE : text.length());
            text.append("  ");
            faultIs(2, text.toString(), mayEnd ? NONE : text.length());
        }
    }

    private static void firstFault() {
        say("A FAULT is at the first TOKEN that cannot stand there");
        faultIs(1, "even even even", 5);
        faultIs(1, "mean 9 above 100", 5);
        faultIs(1, "one forces 0 9 from 9 or", 13);
        faultIs(1, "? even from 9 )", 0);
        faultIs(1, "even from 0 ) or even from 9", 12);
        faultIs(1, "even from 0 or ?", 15);
        faultIs(1, "(even from 0 or even from 1", 26);
    }

    private static OneMark pair() {
        return Boards.of(new int[][] {{ONE, 0}, {OTHER, 1}}, new int[][] {{0, 0, 0}, {0, 1, 0}, {1, 0, 0}, {1, 1, 0}});
    }

    private static void asked() {
        say("whether it holds (1, 0). NOT: it has a FAULT");
        OneMark x = pair();
        due("holds", Texts.ask(x, "even from 0"), 1);
        due("does not", Texts.ask(x, "even from 1"), 0);
        due("empty", x.ask(), NOT);
        Texts.write(x, "even from 2");
        due("a fault", x.ask(), NOT);
        due("it is there still", x.count(4), 11);
        due("and the fault, too", x.fault(), 10);
        due("units of what was asked", x.count(5), 1);
    }

    private static void askedLast() {
        say("THE QUESTION is what was ASKED last");
        OneMark x = pair();
        due("count(5), nothing is asked", x.count(5), 0);
        due("ask", Texts.ask(x, "even from 0 and even from 0"), 1);
        due("ask another one", Texts.ask(x, "even from 1"), 0);
        due("holds", x.holds(), 0);
        due("count(5)", x.count(5), 1);
        Texts.write(x, "even from 0 or even from 0 or");
        due("a fault", x.fault(), 29);
        due("ask a faulty one", x.ask(), NOT);
        due("holds still", x.holds(), 0);
        due("count(5) still", x.count(5), 1);
        x.erase();
        Texts.write(x, "even from 0 or even from 0");
        due("no fault", x.fault(), NONE);
        due("not asked yet", x.holds(), 0);
        due("erase", x.erase(), 26);
        due("nor is it now", x.count(5), 1);
        due("turned is about the last", x.turned(), 8);
        due("bought is about the last", x.bought(), 2);
    }

    private static void askedAnew() {
        say("it is asked anew of the board as it is each time");
        OneMark x = pair();
        due("ask", Texts.ask(x, "one keeps 0 from 0 and not even from 1"), 1);
        x.give(1, ONE);
        due("given", x.holds(), 0);
        x.give(1, OTHER);
        due("given back", x.holds(), 1);
        x.set(0, 1, 2);
        due("another number", x.holds(), 0);
        x.set(0, 1, 7);
        due("odd again", x.holds(), 1);
        x.cut(0);
        due("an arrow less", x.holds(), 0);
        x.arrow(0, 0, 0);
        due("an arrow more", x.holds(), 1);
        x.place(OTHER, 1);
        due("a place more", x.holds(), 1);
        x.arrow(0, 2, 0);
        due("that ONE need not go to", x.holds(), 1);
        due("ask", Texts.ask(x, "mean 0 above 0"), 0);
        due("a weight", x.set(1, 3, 1), 0);
        due("it holds now", x.holds(), 1);
        x.tell(0);
        due("what is told turns nothing", x.holds(), 1);
    }

    private static void turnedBy() {
        say("TURNED by an ARROW: it holds now, but not without that ARROW, or does not, but would");
        OneMark x = pair();
        due("ask", Texts.ask(x, "one keeps 0 from 0"), 1);
        due("holds, but not without", x.turned(), 1);
        due("ask", Texts.ask(x, "not one keeps 0 from 0"), 0);
        due("does not, but would", x.turned(), 1);
        due("ask", Texts.ask(x, "even from 0 or not even from 0"), 1);
        due("always", x.turned(), 0);
        due("ask", Texts.ask(x, "even from 0 and not even from 0"), 0);
        due("never", x.turned(), 0);
        due("the arrows are there", x.count(1), 4);
        due("ask of no arrows", Texts.ask(Boards.row(1, ONE), "even from 0"), 1);
        OneMark none = Boards.row(1, ONE);
        Texts.ask(none, "even from 0");
        due("no arrows", none.turned(), 0);
    }

    private static void turnedByEach() {
        say("ARROWS by which THE QUESTION is TURNED, by bits");
        OneMark ring = Boards.ring();
        due("ask", Texts.ask(ring, "one forces 7 from 0"), 1);
        due("each but the last", ring.turned(), 127);
        due("ask", Texts.ask(ring, "one again 0 from 0"), 1);
        due("without the first it stays there", ring.turned(), 254);
        OneMark x = new OneMark();
        for (int p = 0; p < 8; p++) x.place(ONE, 0);
        for (int a = 0; a < 20; a++) x.arrow(a < 19 ? a % 7 : 7, a < 19 ? (a % 7 + a / 7) % 7 : 0, 0);
        due("ask", Texts.ask(x, "one forces 0 from 7"), 1);
        due("the last of 20", x.turned(), 1 << 19);
    }

    private static void boughtFewest() {
        say("BOUGHT: the fewest PLACES that have to be of the other PLAYER so that it holds; 0: it holds; NONE: no set does");
        OneMark x = pair();
        due("ask", Texts.ask(x, "even from 0"), 1);
        due("it holds", x.bought(), 0);
        due("ask", Texts.ask(x, "one forces 0 from 0 and not one forces 0 from 0"), 0);
        due("no set", x.bought(), NONE);
        due("ask", Texts.ask(x, "one forces 0 from 1"), 0);
        due("OTHER's place to ONE", x.bought(), 2);
        due("ask", Texts.ask(x, "other forces 1 from 0"), 0);
        due("ONE's place to OTHER", x.bought(), 1);
        due("whose they are is as before", x.count(2), 1);
        say("of several sets the least number (bits)");
        OneMark row = new OneMark();
        for (int p = 0; p < 8; p++) row.place(OTHER, 0);
        for (int p = 7; p > 0; p--) {
            row.arrow(p, 0, 0);
            row.arrow(p, p, 0);
        }
        due("ask", Texts.ask(row, "one forces 0 from 7 or one forces 0 from 6 or one forces 0 from 3"), 0);
        due("one of three", row.bought(), 8);
        due("ask", Texts.ask(row, "one forces 0 from 7 or one forces 0 from 1 and one forces 0 from 2"), 0);
        due("one is fewer than two of less number", row.bought(), 128);
        due("ask", Texts.ask(row, "one forces 0 from 7 and (one forces 0 from 5 or one forces 0 from 4)"), 0);
        due("one of two sets of two", row.bought(), 128 | 16);
        OneMark two = Boards.of(new int[][] {{ONE, 0}, {OTHER, 0}}, new int[][] {{0, 0, 0}, {0, 1, 0}, {1, 0, 0}, {1, 1, 0}});
        due("ask", Texts.ask(two, "one forces 0 from 1 and other forces 1 from 0"), 0);
        due("both change", two.bought(), 3);
        OneMark empty = new OneMark();
        empty.place(OTHER, 1);
        due("ask", Texts.ask(empty, "even from 0"), 0);
        due("whose it is turns nothing where it stays", empty.bought(), NONE);
    }

    private static void boughtAll() {
        say("BOUGHT: all eight");
        OneMark x = new OneMark();
        for (int p = 0; p < 8; p++) x.place(OTHER, 0);
        for (int p = 0; p < 8; p++) {
            x.arrow(p, p, 0);
            x.arrow(p, (p + 1) % 8, 0);
        }
        due("ask", Texts.ask(x, "one forces 7 from 0 and one forces 0 from 7"), 0);
        due("all", x.bought(), 255);
        due("ask", Texts.ask(x, "one forces 7 from 0"), 0);
        due("all but the last", x.bought(), 127);
        for (int p = 0; p < 8; p++) x.give(p, ONE);
        due("it holds now", x.bought(), 0);
    }

    private static void unitsWithout() {
        say("5 UNITS of THE QUESTION without any within (0: nothing is ASKED)");
        OneMark x = pair();
        due("nothing is asked", x.count(5), 0);
        Texts.write(x, "even from 0");
        due("not asked yet", x.count(5), 0);
        String[] texts = {"even from 0", "not even from 0", "not not even from 0", "((even from 0))", "not (not even from 0)",
            "even from 0 or even from 0", "(even from 0 or even from 1) and not (mean 0 above 1)",
            "one forces 0 from 0 and one keeps 0 from 0 and one again 0 from 0 and even from 0 and mean 0 above 0"};
        int[] units = {1, 1, 1, 1, 1, 2, 3, 5};
        for (int i = 0; i < texts.length; i++) {
            Texts.ask(x, texts[i]);
            due(texts[i], x.count(5), units[i]);
        }
        String most = "even from0or ".repeat(8) + "even from0";
        due("the most", Texts.ask(x, most), 1);
        due("the most", x.count(5), 9);
        due("one more begins and ends too soon", Texts.faultOf(x, "even from0or ".repeat(9) + "one"), 120);
        due("what is asked stays", x.holds(), 1);
        due("the most still", x.count(5), 9);
        due("each of them is seen", Texts.ask(x, "even from1or ".repeat(8) + "even from0"), 1);
        due("and each is needed", Texts.ask(x, "even from0and ".repeat(7) + "even from1"), 0);
        due("6", x.count(6), OUTSIDE);
    }
}
