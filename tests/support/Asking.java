import java.util.ArrayList;
import java.util.List;
import java.util.Random;

/** Questions as trees: made, told in words, answered by an Oracle; and texts read by descent to their first fault. */
public final class Asking {
    private Asking() {
    }

    /** A question or a part of one. */
    public interface Tree {
        boolean holds(Oracle board);

        String words();

        int units();
    }

    record Join(boolean every, Tree a, Tree b) implements Tree {
        public boolean holds(Oracle board) {
            return every ? a.holds(board) && b.holds(board) : a.holds(board) || b.holds(board);
        }

        public String words() {
            return a.words() + (every ? " and " : " or ") + b.words();
        }

        public int units() {
            return a.units() + b.units();
        }
    }

    record Negated(Tree a) implements Tree {
        public boolean holds(Oracle board) {
            return !a.holds(board);
        }

        public String words() {
            return "not " + a.words();
        }

        public int units() {
            return a.units();
        }
    }

    record Closed(Tree a) implements Tree {
        public boolean holds(Oracle board) {
            return a.holds(board);
        }

        public String words() {
            return "(" + a.words() + ")";
        }

        public int units() {
            return a.units();
        }
    }

    record Leaf(String verb, int player, int set, int place, int bound) implements Tree {
        public boolean holds(Oracle board) {
            switch (verb) {
                case "forces": return (board.forced(player, set) >> place & 1) != 0;
                case "keeps": return (board.kept(player, set) >> place & 1) != 0;
                case "again": return (board.again(player, set) >> place & 1) != 0;
                case "even": return (board.wonBy(0) >> place & 1) != 0;
                default:
                    int[] mean = board.mean(place);
                    int order = mean[0] - bound * mean[1];
                    return verb.equals("above") ? order > 0 : order < 0;
            }
        }

        public String words() {
            if (verb.equals("even")) return "even from " + place;
            if (verb.equals("above") || verb.equals("below")) return "mean " + place + " " + verb + " " + bound;
            StringBuilder out = new StringBuilder(player == 0 ? "one " : "other ").append(verb);
            for (int p = 0; p < 8; p++) if ((set >> p & 1) != 0) out.append(' ').append(p);
            return out.append(" from ").append(place).toString();
        }

        public int units() {
            return 1;
        }
    }

    public static Tree question(Random random, int places, int size) {
        Tree tree = part(random, places, size);
        while (size > 0 && random.nextInt(3) == 0) tree = new Join(false, tree, part(random, places, size - 1));
        return tree;
    }

    private static Tree part(Random random, int places, int size) {
        Tree tree = unit(random, places, size);
        while (size > 0 && random.nextInt(3) == 0) tree = new Join(true, tree, unit(random, places, size - 1));
        return tree;
    }

    private static Tree unit(Random random, int places, int size) {
        int kind = random.nextInt(8);
        if (kind == 0 && size > 0) return new Negated(unit(random, places, size - 1));
        if (kind == 1 && size > 0) return new Closed(question(random, places, size - 1));
        String[] verbs = {"forces", "keeps", "again", "even", "above", "below"};
        int bound = random.nextInt(20) == 0 ? random.nextInt(100) : random.nextInt(4);
        return new Leaf(verbs[random.nextInt(6)], random.nextInt(2), 1 + random.nextInt((1 << places) - 1),
            random.nextInt(places), bound);
    }

    /** Told where a text cannot go on. */
    private static final class Fault extends RuntimeException {
        private static final long serialVersionUID = 1L;
        final int at;

        Fault(int at) {
            super("fault at " + at);
            this.at = at;
        }
    }

    /** A descent over the tokens of one text. */
    private static final class Descent {
        final List<String> tokens = new ArrayList<>();
        final List<Integer> begins = new ArrayList<>();
        final int places;
        int at;

        Descent(String text, int places) {
            this.places = places;
            int i = 0;
            while (i < text.length()) {
                int begin = i;
                char c = text.charAt(i++);
                if (c == ' ') continue;
                if (c >= 'a' && c <= 'z') while (i < text.length() && text.charAt(i) >= 'a' && text.charAt(i) <= 'z') i++;
                if (c >= '0' && c <= '9') while (i < text.length() && text.charAt(i) >= '0' && text.charAt(i) <= '9') i++;
                tokens.add(text.substring(begin, i));
                begins.add(begin);
            }
            tokens.add("");
            begins.add(text.length());
        }

        String take() {
            return tokens.get(at++);
        }

        boolean next(String word) {
            return tokens.get(at).equals(word);
        }

        Fault here() {
            return new Fault(begins.get(at));
        }

        void must(String... words) {
            for (String word : words) {
                if (next(word)) {
                    at++;
                    return;
                }
            }
            throw here();
        }

        boolean nextNumber(int end) {
            String token = tokens.get(at);
            return token.matches("[0-9]{1,2}") && Integer.parseInt(token) < end;
        }

        void number(int end) {
            if (!nextNumber(end)) throw here();
            at++;
        }

        void question() {
            part();
            while (next("or")) {
                at++;
                part();
            }
        }

        void part() {
            unit();
            while (next("and")) {
                at++;
                unit();
            }
        }

        void unit() {
            if (next("not")) {
                at++;
                unit();
            } else if (next("(")) {
                at++;
                question();
                must(")");
            } else if (next("even")) {
                at++;
                must("from");
                number(places);
            } else if (next("mean")) {
                at++;
                number(places);
                must("above", "below");
                number(100);
            } else {
                must("one", "other");
                must("forces", "keeps", "again");
                number(places);
                while (nextNumber(places)) at++;
                must("from");
                number(places);
            }
        }
    }

    /** The place of the first fault of a text; -1: none. */
    public static int faultOf(String text, int places) {
        Descent descent = new Descent(text, places);
        try {
            descent.question();
            if (!descent.next("")) throw descent.here();
            return -1;
        } catch (Fault fault) {
            return fault.at;
        }
    }
}
