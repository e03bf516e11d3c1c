/** One mark moved for ever by two over places and arrows, and questions about what they can do. */
public final class OneMark {
    public static final int NONE = -1, UNKNOWN = -2, OUTSIDE = -3, NOT = -4, FULL = -5;

    private static final int LEAST_INT = -2147483648;
    private static final int ONE = 0, OTHER = 1;
    private static final int MOST_PLACES = 8, MOST_NUMBER = 7, MOST_ARROWS = 20, MOST_WEIGHT = 5;
    // A place without arrows has one move that is no arrow: it stays.
    private static final int MOST_MOVES = MOST_ARROWS + MOST_PLACES;
    private static final int MOST_STEPS = 500, MOST_BYTES = 120, MOST_AT_ONCE = 8;
    // A unit and what joins it to the next one take 13 bytes at least.
    private static final int MOST_UNITS = 10;

    // Kinds of tokens; those of units are the kinds of units, too.
    private static final int T_END = 0, T_NUMBER = 1, T_OPEN = 2, T_CLOSE = 3, T_STRANGE = 4;
    private static final int T_NOT = 5, T_AND = 6, T_OR = 7, T_ONE = 8, T_OTHER = 9, T_FROM = 10;
    private static final int T_FORCES = 11, T_KEEPS = 12, T_AGAIN = 13, T_EVEN = 14;
    private static final int T_MEAN = 15, T_ABOVE = 16, T_BELOW = 17;

    // What may stand next in a text.
    private static final int BROKEN = -1, AT_UNIT = 0, AT_JOIN = 1, AT_VERB = 2, AT_FIRST = 3;
    private static final int AT_MORE = 4, AT_LAST = 5, AT_FROM = 6, AT_MEAN = 7, AT_SIDE = 8, AT_BOUND = 9;

    private final Board board = new Board();
    private final Moves moves = new Moves();
    private final Loops loops = new Loops();
    private final Means means = new Means();
    private final Reader reader = new Reader();
    private Question asked = new Question();
    private Question draft = new Question();

    public OneMark() {
    }

    // ---- the board

    public int place(int player, int number) {
        if (!isPlayer(player)) return UNKNOWN;
        if (!isNumber(number)) return OUTSIDE;
        if (board.places >= MOST_PLACES) return FULL;
        return board.addPlace(player, number);
    }

    public int arrow(int from, int to, int weight) {
        if (!isPlace(from) || !isPlace(to)) return UNKNOWN;
        if (!isWeight(weight)) return OUTSIDE;
        if (board.find(from, to) != NONE) return NOT;
        if (board.arrows >= MOST_ARROWS) return FULL;
        return board.addArrow(from, to, weight);
    }

    public int cut(int arrow) {
        if (!isArrow(arrow)) return UNKNOWN;
        board.removeArrow(arrow);
        return board.arrows;
    }

    public int give(int place, int player) {
        if (!isPlace(place) || !isPlayer(player)) return UNKNOWN;
        int before = board.ownerOf(place);
        board.giveTo(place, player);
        return before;
    }

    public int set(int what, int k, int v) {
        if (what == 0 && isPlace(k) && isNumber(v)) {
            int before = board.number[k];
            board.number[k] = v;
            return before;
        }
        if (what == 1 && isArrow(k) && isWeight(v)) {
            int before = board.weight[k];
            board.weight[k] = v;
            return before;
        }
        return LEAST_INT;
    }

    public int from(int a, int b) {
        if (!isPlace(a) || !isPlace(b)) return UNKNOWN;
        return board.find(a, b);
    }

    // ---- what one can force

    public int forced(int player, int set) {
        if (!isPlayer(player)) return UNKNOWN;
        if (!isSet(set)) return OUTSIDE;
        moves.load(board, NONE, 0);
        return moves.attracted(player, set, moves.everywhere());
    }

    public int steps(int player, int set, int place) {
        if (!isPlayer(player) || !isPlace(place)) return UNKNOWN;
        if (!isSet(set)) return OUTSIDE;
        moves.load(board, NONE, 0);
        return moves.movesInto(player, set, place);
    }

    public int kept(int player, int set) {
        if (!isPlayer(player)) return UNKNOWN;
        if (!isSet(set)) return OUTSIDE;
        moves.load(board, NONE, 0);
        return moves.keeping(player, set);
    }

    public int again(int player, int set) {
        return both(player, set, set);
    }

    public int both(int player, int one, int two) {
        if (!isPlayer(player)) return UNKNOWN;
        if (!isSet(one) || !isSet(two)) return OUTSIDE;
        moves.load(board, NONE, 0);
        return moves.meeting(player, one, two);
    }

    public int won() {
        moves.load(board, NONE, 0);
        return moves.wonBy(ONE, board.number);
    }

    public int plan(int place) {
        if (!isPlace(place)) return UNKNOWN;
        moves.load(board, NONE, 0);
        int player = board.ownerOf(place);
        int region = moves.wonBy(player, board.number);
        int arrow = NONE;
        for (int p = 0; p <= place; p++) {
            boolean chooses = board.ownerOf(p) == player && (region >> p & 1) != 0;
            arrow = chooses ? narrowed(p, player, region) : NONE;
        }
        return arrow;
    }

    /** Leaves a place just the least arrow by which the player still wins all of the region. */
    private int narrowed(int p, int player, int region) {
        for (int a = 0; a < board.arrows; a++) {
            if (board.start[a] != p) continue;
            moves.next[p] = 1 << board.end[a];
            if ((region & ~moves.wonBy(player, board.number)) == 0) return a;
        }
        return NONE;
    }

    // ---- weights

    public int after(int k, int place) {
        if (!isPlace(place) || k < 0 || k > MOST_STEPS) return LEAST_INT;
        moves.load(board, NONE, 0);
        return means.sumAfter(moves, k, place);
    }

    public int mean(int place, int part) {
        if (!isPlace(place) || !isPart(part)) return LEAST_INT;
        moves.load(board, NONE, 0);
        means.findSure(moves, ONE, place);
        return part == 0 ? means.above : means.below;
    }

    public int rate(int player, int set, int place, int part) {
        if (!isPlayer(player) || !isSet(set) || !isPlace(place) || !isPart(part)) return LEAST_INT;
        moves.load(board, NONE, 0);
        moves.weighBySet(set);
        means.findSure(moves, player, place);
        return part == 0 ? means.above : means.below;
    }

    // ---- what is told

    public int tell(int arrow) {
        if (!isArrow(arrow)) return UNKNOWN;
        int at = board.start[arrow];
        int before = board.told[at];
        board.told[at] = arrow;
        return before;
    }

    public int untell(int place) {
        if (!isPlace(place)) return UNKNOWN;
        int before = board.told[place];
        if (before == NONE) return NOT;
        board.told[place] = NONE;
        return before;
    }

    public int judged(int player) {
        if (!isPlayer(player)) return UNKNOWN;
        moves.loadTold(board, player);
        return moves.everywhere() & ~loops.wrongPlaces(moves, board.number, oddness(player));
    }

    public int breaker(int player, int place, int i) {
        if (!isPlayer(player) || !isPlace(place)) return UNKNOWN;
        if (i < 0) return OUTSIDE;
        moves.loadTold(board, player);
        int wrong = oddness(player);
        if ((loops.wrongPlaces(moves, board.number, wrong) >> place & 1) == 0) return NONE;
        loops.findBreaker(moves, board.number, wrong, place);
        return i <= loops.moved && i <= MOST_PLACES ? loops.row[i] : NONE;
    }

    public int worth(int player, int place, int part) {
        if (!isPlayer(player) || !isPlace(place) || !isPart(part)) return LEAST_INT;
        moves.loadTold(board, player);
        means.findLeft(moves, player, place);
        return part == 0 ? means.above : means.below;
    }

    /** What the least number of a loop has, by 2, where the loop is wrong for the player. */
    private static int oddness(int player) {
        return player == ONE ? 1 : 0;
    }

    // ---- questions

    public int write(long bytes, int n) {
        if (n < 1 || n > MOST_AT_ONCE) return OUTSIDE;
        if (reader.length + n > MOST_BYTES) return FULL;
        for (int i = 0; i < n; i++) {
            reader.add((int) (bytes >> 8 * i & 255));
        }
        return reader.length;
    }

    public int erase() {
        int before = reader.length;
        reader.length = 0;
        return before;
    }

    public int fault() {
        return reader.read(draft, board.places);
    }

    public int ask() {
        if (reader.read(draft, board.places) != NONE) return NOT;
        Question spare = asked;
        asked = draft;
        draft = spare;
        draft.clear();
        reader.length = 0;
        return asked.isTrue(board, moves, means, NONE, 0) ? 1 : 0;
    }

    public int holds() {
        if (asked.units == 0) return NOT;
        return asked.isTrue(board, moves, means, NONE, 0) ? 1 : 0;
    }

    public int turned() {
        if (asked.units == 0) return NOT;
        boolean now = asked.isTrue(board, moves, means, NONE, 0);
        int found = 0;
        for (int a = 0; a < board.arrows; a++) {
            if (asked.isTrue(board, moves, means, a, 0) != now) found |= 1 << a;
        }
        return found;
    }

    public int bought() {
        if (asked.units == 0) return NOT;
        // Whose a place with one move is turns nothing, so no fewest set has it.
        moves.load(board, NONE, 0);
        int useless = ~moves.branching();
        for (int size = 0; size <= board.places; size++) {
            for (int bits = 0; bits < 1 << board.places; bits++) {
                if (Integer.bitCount(bits) != size || (bits & useless) != 0) continue;
                if (asked.isTrue(board, moves, means, NONE, bits)) return bits;
            }
        }
        return NONE;
    }

    public int count(int what) {
        switch (what) {
            case 0: return board.places;
            case 1: return board.arrows;
            case 2: return Integer.bitCount(board.ones);
            case 3: return board.toldPlaces();
            case 4: return reader.length;
            case 5: return asked.units;
            default: return OUTSIDE;
        }
    }

    // ---- what may be told in a call

    private static boolean isPlayer(int player) {
        return player == ONE || player == OTHER;
    }

    private static boolean isNumber(int number) {
        return number >= 0 && number <= MOST_NUMBER;
    }

    private static boolean isWeight(int weight) {
        return weight >= -MOST_WEIGHT && weight <= MOST_WEIGHT;
    }

    private static boolean isPart(int part) {
        return part == 0 || part == 1;
    }

    private boolean isPlace(int place) {
        return place >= 0 && place < board.places;
    }

    private boolean isArrow(int arrow) {
        return arrow >= 0 && arrow < board.arrows;
    }

    private boolean isSet(int set) {
        return set >> board.places == 0;
    }

    /** The places, whose they are, the arrows, and what is told. */
    private static final class Board {
        private int places;
        private int arrows;
        private int ones;
        private final int[] number = new int[MOST_PLACES];
        private final int[] told = new int[MOST_PLACES];
        private final int[] start = new int[MOST_ARROWS];
        private final int[] end = new int[MOST_ARROWS];
        private final int[] weight = new int[MOST_ARROWS];

        private int addPlace(int player, int itsNumber) {
            int p = places++;
            number[p] = itsNumber;
            told[p] = NONE;
            giveTo(p, player);
            return p;
        }

        private int addArrow(int a, int b, int itsWeight) {
            int arrow = arrows++;
            start[arrow] = a;
            end[arrow] = b;
            weight[arrow] = itsWeight;
            return arrow;
        }

        private void removeArrow(int arrow) {
            arrows--;
            for (int a = arrow; a < arrows; a++) {
                start[a] = start[a + 1];
                end[a] = end[a + 1];
                weight[a] = weight[a + 1];
            }
            for (int p = 0; p < places; p++) {
                if (told[p] == arrow) told[p] = NONE;
                else if (told[p] > arrow) told[p]--;
            }
        }

        private int find(int a, int b) {
            for (int arrow = 0; arrow < arrows; arrow++) {
                if (start[arrow] == a && end[arrow] == b) return arrow;
            }
            return NONE;
        }

        private int ownerOf(int p) {
            return (ones >> p & 1) != 0 ? ONE : OTHER;
        }

        private void giveTo(int p, int player) {
            if (player == ONE) ones |= 1 << p;
            else ones &= ~(1 << p);
        }

        /** Whether an arrow can be moved by when a player moves by what is told. */
        private boolean isOpen(int arrow, int player) {
            int p = start[arrow];
            return ownerOf(p) != player || told[p] == NONE || told[p] == arrow;
        }

        private int toldPlaces() {
            int found = 0;
            for (int p = 0; p < places; p++) {
                if (told[p] != NONE) found++;
            }
            return found;
        }
    }

    /** The moves that there are in one look at the board, and what can be forced by them. */
    private static final class Moves {
        private int places;
        private int ones;
        private int size;
        private final int[] start = new int[MOST_MOVES];
        private final int[] end = new int[MOST_MOVES];
        private final int[] weight = new int[MOST_MOVES];
        private final int[] next = new int[MOST_PLACES];

        private void load(Board board, int without, int changed) {
            clear(board, changed);
            for (int a = 0; a < board.arrows; a++) {
                if (a != without) add(board.start[a], board.end[a], board.weight[a]);
            }
            addStays();
        }

        /** Loads the moves that are left when a player moves by what is told. */
        private void loadTold(Board board, int player) {
            clear(board, 0);
            for (int a = 0; a < board.arrows; a++) {
                if (board.isOpen(a, player)) add(board.start[a], board.end[a], board.weight[a]);
            }
            addStays();
        }

        private void clear(Board board, int changed) {
            places = board.places;
            ones = board.ones ^ changed;
            size = 0;
            for (int p = 0; p < places; p++) {
                next[p] = 0;
            }
        }

        private void add(int a, int b, int itsWeight) {
            if (size >= MOST_MOVES) return;
            start[size] = a;
            end[size] = b;
            weight[size] = itsWeight;
            size++;
            next[a] |= 1 << b;
        }

        private void addStays() {
            for (int p = 0; p < places; p++) {
                if (next[p] == 0) add(p, p, 0);
            }
        }

        private void weighBySet(int set) {
            for (int m = 0; m < size; m++) {
                weight[m] = set >> start[m] & 1;
            }
        }

        private int everywhere() {
            return (1 << places) - 1;
        }

        /** The places of a player, by bits (those of no places mean nothing). */
        private int placesOf(int player) {
            return player == ONE ? ones : ~ones;
        }

        private int branching() {
            int found = 0;
            for (int p = 0; p < places; p++) {
                if (Integer.bitCount(next[p]) > 1) found |= 1 << p;
            }
            return found;
        }

        /** The places within some from which the player is sure of the target by one move. */
        private int oneMoveFrom(int player, int target, int within) {
            int mine = player == ONE ? ones : ~ones;
            int found = 0;
            for (int p = 0; p < places; p++) {
                int goes = next[p] & within;
                boolean sure = (mine >> p & 1) != 0 ? (goes & target) != 0 : (goes & ~target) == 0;
                if (sure) found |= 1 << p;
            }
            return found & within;
        }

        /** The places from which the player can force the target, when the mark stays within. */
        private int attracted(int player, int target, int within) {
            int found = target & within;
            for (int round = 0; round < places; round++) {
                int wider = found | oneMoveFrom(player, found, within);
                if (wider == found) break;
                found = wider;
            }
            return found;
        }

        private int movesInto(int player, int target, int p) {
            int found = target;
            for (int k = 0; k <= places; k++) {
                if ((found >> p & 1) != 0) return k;
                found |= oneMoveFrom(player, found, everywhere());
            }
            return NONE;
        }

        private int keeping(int player, int target) {
            int all = everywhere();
            return all & ~attracted(1 - player, all & ~target, all);
        }

        private int meeting(int player, int target, int second) {
            int left = everywhere();
            for (int round = 0; round < places; round++) {
                int fewer = withoutLost(player, second, withoutLost(player, target, left));
                if (fewer == left) break;
                left = fewer;
            }
            return left;
        }

        /** Takes away from where the other can bring the mark to places that never see the target. */
        private int withoutLost(int player, int target, int within) {
            int never = within & ~attracted(player, target, within);
            return within & ~attracted(1 - player, never, within);
        }

        private int wonBy(int player, int[] number) {
            int even = evenPlaces(this, number, everywhere(), 0);
            return player == ONE ? even : everywhere() & ~even;
        }

        /**
         * The places within some that ONE wins by the least number met without end.
         * Each call takes one place away at least, so no more than places + 1 stand open.
         */
        private static int evenPlaces(Moves moves, int[] number, int within, int depth) {
            if (within == 0 || depth > MOST_PLACES) return 0;
            int least = leastNumber(moves, number, within);
            int player = (least & 1) == 0 ? ONE : OTHER;
            int near = moves.attracted(player, holders(moves, number, within, least), within);
            int rest = within & ~near;
            int restEven = evenPlaces(moves, number, rest, depth + 1);
            int lost = player == ONE ? rest & ~restEven : restEven;
            if (lost == 0) return player == ONE ? within : 0;
            int gone = moves.attracted(1 - player, lost, within);
            int leftEven = evenPlaces(moves, number, within & ~gone, depth + 1);
            return player == ONE ? leftEven : leftEven | gone;
        }

        private static int leastNumber(Moves moves, int[] number, int within) {
            int least = MOST_NUMBER;
            for (int p = 0; p < moves.places; p++) {
                if ((within >> p & 1) != 0) least = Math.min(least, number[p]);
            }
            return least;
        }

        private static int holders(Moves moves, int[] number, int within, int wanted) {
            int found = 0;
            for (int p = 0; p < moves.places; p++) {
                if (number[p] == wanted) found |= 1 << p;
            }
            return found & within;
        }
    }

    /** The loops that can be come to, by their least numbers. */
    private static final class Loops {
        private final int[] row = new int[MOST_PLACES + 1];
        private int moved;

        /** The places from which a loop can be come to whose least number is wrong by 2. */
        private int wrongPlaces(Moves moves, int[] number, int wrong) {
            int found = 0;
            for (int p = 0; p < moves.places; p++) {
                if ((number[p] & 1) == wrong && isLeastOfLoop(moves, number, p)) found |= 1 << p;
            }
            for (int round = 0; round < moves.places; round++) {
                for (int p = 0; p < moves.places; p++) {
                    if ((moves.next[p] & found) != 0) found |= 1 << p;
                }
            }
            return found;
        }

        private boolean isLeastOfLoop(Moves moves, int[] number, int p) {
            int high = 0;
            for (int q = 0; q < moves.places; q++) {
                if (number[q] >= number[p]) high |= 1 << q;
            }
            int reached = moves.next[p] & high;
            for (int round = 0; round < moves.places; round++) {
                for (int q = 0; q < moves.places; q++) {
                    if ((reached >> q & 1) != 0) reached |= moves.next[q] & high;
                }
            }
            return (reached >> p & 1) != 0;
        }

        /** Finds the shortest row into a wrong loop, the first by places among equals. */
        private void findBreaker(Moves moves, int[] number, int wrong, int p) {
            row[0] = p;
            for (int k = 1; k <= moves.places; k++) {
                moved = k;
                if (isExtended(this, moves, number, wrong, 1)) break;
            }
        }

        private static boolean isExtended(Loops loops, Moves moves, int[] number, int wrong, int at) {
            if (at < 1 || at > loops.moved || at > MOST_PLACES) return false;
            int choices = moves.next[loops.row[at - 1]];
            for (int p = 0; p < moves.places; p++) {
                if ((choices >> p & 1) == 0) continue;
                int earlier = loops.indexOf(p, at);
                loops.row[at] = p;
                if (at == loops.moved) {
                    if (earlier != NONE && (loops.leastOf(number, earlier, at) & 1) == wrong) return true;
                } else if (earlier == NONE && isExtended(loops, moves, number, wrong, at + 1)) {
                    return true;
                }
            }
            return false;
        }

        private int indexOf(int p, int end) {
            for (int i = 0; i < end; i++) {
                if (row[i] == p) return i;
            }
            return NONE;
        }

        private int leastOf(int[] number, int first, int end) {
            int least = MOST_NUMBER;
            for (int i = first; i < end; i++) {
                least = Math.min(least, number[row[i]]);
            }
            return least;
        }
    }

    /** What can be had by each move, as a fraction. */
    private static final class Means {
        // More than any sum of weights of so few moves.
        private static final int FAR = 1000000;

        private int above;
        private int below = 1;
        private int loopAbove;
        private int loopBelow = 1;
        private final int[] open = new int[MOST_PLACES];
        private final int[][] least = new int[MOST_PLACES + 1][MOST_PLACES];
        private final int[] sum = new int[MOST_PLACES];
        private final int[] newSum = new int[MOST_PLACES];

        private int sumAfter(Moves moves, int k, int p) {
            for (int q = 0; q < moves.places; q++) {
                sum[q] = 0;
            }
            for (int i = 0; i < k; i++) {
                addMove(moves);
                System.arraycopy(newSum, 0, sum, 0, moves.places);
            }
            return sum[p];
        }

        private void addMove(Moves moves) {
            int seen = 0;
            for (int m = 0; m < moves.size; m++) {
                int p = moves.start[m];
                int had = moves.weight[m] + sum[moves.end[m]];
                if ((seen >> p & 1) == 0) newSum[p] = had;
                else if ((moves.ones >> p & 1) != 0) newSum[p] = Math.max(newSum[p], had);
                else newSum[p] = Math.min(newSum[p], had);
                seen |= 1 << p;
            }
        }

        /**
         * Finds the most by each move that a player can be sure of for ever.
         * Each player has a best plan of one move a place, so those of one player are tried all;
         * 20 arrows leave the player with fewer plans 36 at most.
         */
        private void findSure(Moves moves, int player, int p) {
            int mine = plansOf(moves, player);
            int others = plansOf(moves, 1 - player);
            if (mine <= others) findBest(moves, player, mine, 1, p);
            else findBest(moves, 1 - player, others, -1, p);
        }

        /**
         * Whether a player can hold the mean at a bound or to its own side of it.
         * A question may ask this of 256 boards, too often for trying plans. The player can if some
         * amount in hand is never used up by what each move lacks; the least such amounts grow here.
         */
        private boolean isHeld(Moves moves, int player, int bound, int p) {
            // A way without a loop uses up no more than this.
            int most = moves.places * (bound + MOST_WEIGHT);
            for (int q = 0; q < moves.places; q++) {
                sum[q] = 0;
            }
            for (int round = 0; round <= moves.places * (most + 1); round++) {
                if (sum[p] > most || !isRaised(moves, player, bound, most)) break;
            }
            return sum[p] <= most;
        }

        private boolean isRaised(Moves moves, int player, int bound, int most) {
            int mine = moves.placesOf(player);
            int sign = player == ONE ? 1 : -1;
            int seen = 0;
            for (int m = 0; m < moves.size; m++) {
                int p = moves.start[m];
                int after = sum[moves.end[m]];
                int need = after > most ? after : Math.max(0, after + sign * (bound - moves.weight[m]));
                if ((seen >> p & 1) == 0) newSum[p] = need;
                else if ((mine >> p & 1) != 0) newSum[p] = Math.min(newSum[p], need);
                else newSum[p] = Math.max(newSum[p], need);
                seen |= 1 << p;
            }
            boolean raised = false;
            for (int p = 0; p < moves.places; p++) {
                int need = Math.min(newSum[p], most + 1);
                if (need > sum[p]) raised = true;
                sum[p] = need;
            }
            return raised;
        }

        /** Finds the least of all loops for ONE, the greatest for OTHER. */
        private void findLeft(Moves moves, int player, int p) {
            findBest(moves, NONE, 1, player == ONE ? 1 : -1, p);
        }

        private int plansOf(Moves moves, int player) {
            int mine = moves.placesOf(player);
            int plans = 1;
            for (int p = 0; p < moves.places; p++) {
                if ((mine >> p & 1) != 0) plans *= Integer.bitCount(moves.next[p]);
            }
            return plans;
        }

        /** Finds the greatest over the planner's plans of the least loop, by weights times sign. */
        private void findBest(Moves moves, int planner, int plans, int sign, int p) {
            for (int i = 0; i < plans; i++) {
                choosePlan(moves, planner, i);
                findLeastLoop(moves, sign, p);
                if (i == 0 || loopAbove * below > above * loopBelow) {
                    above = loopAbove;
                    below = loopBelow;
                }
            }
            above *= sign;
            for (int d = below; d > 1; d--) {
                if (above % d == 0 && below % d == 0) {
                    above /= d;
                    below /= d;
                }
            }
        }

        private void choosePlan(Moves moves, int planner, int plan) {
            int mine = planner == NONE ? 0 : moves.placesOf(planner);
            int left = plan;
            for (int p = 0; p < moves.places; p++) {
                open[p] = moves.next[p];
                int choices = Integer.bitCount(open[p]);
                if ((mine >> p & 1) == 0 || choices < 2) continue;
                open[p] = bitAt(open[p], left % choices);
                left /= choices;
            }
        }

        private static int bitAt(int bits, int index) {
            int left = bits;
            for (int i = 0; i < index; i++) {
                left &= left - 1;
            }
            return left & -left;
        }

        /** Finds the least mean of all loops that can be come to, by Karp's row of shortest walks. */
        private void findLeastLoop(Moves moves, int sign, int p) {
            walk(moves, sign, p);
            int n = moves.places;
            boolean found = false;
            for (int q = 0; q < n; q++) {
                if (least[n][q] >= FAR) continue;
                int highTop = 0;
                int highBottom = 0;
                for (int k = 0; k < n; k++) {
                    if (least[k][q] >= FAR) continue;
                    int top = least[n][q] - least[k][q];
                    int bottom = n - k;
                    if (highBottom == 0 || top * highBottom > highTop * bottom) {
                        highTop = top;
                        highBottom = bottom;
                    }
                }
                if (highBottom == 0) continue;
                if (!found || highTop * loopBelow < loopAbove * highBottom) {
                    loopAbove = highTop;
                    loopBelow = highBottom;
                }
                found = true;
            }
        }

        private void walk(Moves moves, int sign, int p) {
            int n = moves.places;
            for (int k = 0; k <= n; k++) {
                for (int q = 0; q < n; q++) {
                    least[k][q] = FAR;
                }
            }
            least[0][p] = 0;
            for (int k = 1; k <= n; k++) {
                for (int m = 0; m < moves.size; m++) {
                    int a = moves.start[m];
                    int b = moves.end[m];
                    if ((open[a] >> b & 1) == 0 || least[k - 1][a] >= FAR) continue;
                    least[k][b] = Math.min(least[k][b], least[k - 1][a] + sign * moves.weight[m]);
                }
            }
        }
    }

    /** A question as a row of units and of what joins them, each join behind what it joins. */
    private static final class Question {
        private static final int NEGATE = -1, BOTH_HOLD = -2, EITHER_HOLDS = -3, PARENTHESIS = -4;

        private int units;
        private final int[] kind = new int[MOST_UNITS];
        private final int[] player = new int[MOST_UNITS];
        private final int[] bits = new int[MOST_UNITS];
        private final int[] at = new int[MOST_UNITS];
        private final int[] bound = new int[MOST_UNITS];
        private int size;
        private final int[] code = new int[MOST_BYTES];
        private int held;
        private final int[] waiting = new int[MOST_BYTES];
        private int unit;

        private void clear() {
            units = 0;
            size = 0;
            held = 0;
            unit = 0;
        }

        private void begin(int itsKind, int itsPlayer) {
            unit = Math.min(units, MOST_UNITS - 1);
            kind[unit] = itsKind;
            player[unit] = itsPlayer;
            bits[unit] = 0;
            at[unit] = 0;
            bound[unit] = 0;
        }

        private void endUnit() {
            emit(unit);
            units = unit + 1;
            emitNots();
        }

        private void hold(int join) {
            if (held < MOST_BYTES) waiting[held++] = join;
        }

        private int lastHeld() {
            return held > 0 ? waiting[held - 1] : 0;
        }

        private void emit(int what) {
            if (size < MOST_BYTES) code[size++] = what;
        }

        private void emitNots() {
            for (int i = held; i > 0 && lastHeld() == NEGATE; i--) {
                emit(NEGATE);
                held--;
            }
        }

        /** Lets all that binds at least as tightly as the join go ahead of it. */
        private void join(int join) {
            for (int i = held; i > 0; i--) {
                int last = lastHeld();
                if (last != BOTH_HOLD && (last != EITHER_HOLDS || join == BOTH_HOLD)) break;
                emit(last);
                held--;
            }
            hold(join);
        }

        private void closeParenthesis() {
            emitHeld();
            if (held > 0) held--;
            emitNots();
        }

        private void emitHeld() {
            for (int i = held; i > 0 && lastHeld() != PARENTHESIS; i--) {
                emit(lastHeld());
                held--;
            }
        }

        /** Whether it holds without an arrow, and with places changed to the other player. */
        private boolean isTrue(Board board, Moves moves, Means means, int without, int changed) {
            moves.load(board, without, changed);
            // The answers not joined yet, the last one lowest: a text has no room for 64 units.
            long open = 0;
            for (int i = 0; i < size; i++) {
                int what = code[i];
                if (what >= 0) {
                    open = open << 1 | (isUnitTrue(what, moves, means, board.number) ? 1 : 0);
                } else if (what == NEGATE) {
                    open ^= 1;
                } else {
                    long last = open & 1;
                    open >>= 1;
                    if (what == BOTH_HOLD) open &= last | ~1L;
                    else open |= last;
                }
            }
            return (open & 1) != 0;
        }

        private boolean isUnitTrue(int u, Moves moves, Means means, int[] number) {
            int p = at[u];
            switch (kind[u]) {
                case T_FORCES: return (moves.attracted(player[u], bits[u], moves.everywhere()) >> p & 1) != 0;
                case T_KEEPS: return (moves.keeping(player[u], bits[u]) >> p & 1) != 0;
                case T_AGAIN: return (moves.meeting(player[u], bits[u], bits[u]) >> p & 1) != 0;
                case T_EVEN: return (moves.wonBy(ONE, number) >> p & 1) != 0;
                case T_ABOVE: return !means.isHeld(moves, OTHER, bound[u], p);
                default: return !means.isHeld(moves, ONE, bound[u], p);
            }
        }
    }

    /** The text, read token by token into a question up to its first fault. */
    private static final class Reader {
        private static final int BLANK = 32, MOST_DIGITS = 2;

        private int length;
        private final int[] bytes = new int[MOST_BYTES];
        private int cursor;
        private int first;
        private int token;
        private int value;
        private int depth;
        private Question question;

        private void add(int signs) {
            if (length < MOST_BYTES) bytes[length++] = signs;
        }

        /** Reads the text into a question: the place of its fault, or NONE. */
        private int read(Question into, int places) {
            question = into;
            question.clear();
            cursor = 0;
            depth = 0;
            int state = AT_UNIT;
            // Each token but the end takes a byte, so the end comes in time.
            for (int i = 0; i <= length; i++) {
                readToken();
                if (token == T_END) break;
                state = stateAfter(state, places);
                if (state == BROKEN) return first;
            }
            if (state != AT_JOIN || depth > 0) return length;
            question.emitHeld();
            return NONE;
        }

        private int stateAfter(int state, int places) {
            switch (state) {
                case AT_UNIT: return beginUnit();
                case AT_JOIN: return joinUnits();
                case AT_VERB: return takeVerb();
                case AT_FIRST: return takeMember(places);
                case AT_MORE: return token == T_FROM ? AT_LAST : takeMember(places);
                case AT_LAST: return takePlace(places) ? endUnit() : BROKEN;
                case AT_FROM: return token == T_FROM ? AT_LAST : BROKEN;
                case AT_MEAN: return takePlace(places) ? AT_SIDE : BROKEN;
                case AT_SIDE: return takeSide();
                default: return takeBound() ? endUnit() : BROKEN;
            }
        }

        private int beginUnit() {
            switch (token) {
                case T_NOT:
                    question.hold(Question.NEGATE);
                    return AT_UNIT;
                case T_OPEN:
                    question.hold(Question.PARENTHESIS);
                    depth++;
                    return AT_UNIT;
                case T_ONE:
                case T_OTHER:
                    question.begin(T_FORCES, token == T_ONE ? ONE : OTHER);
                    return AT_VERB;
                case T_EVEN:
                    question.begin(T_EVEN, ONE);
                    return AT_FROM;
                case T_MEAN:
                    question.begin(T_ABOVE, ONE);
                    return AT_MEAN;
                default:
                    return BROKEN;
            }
        }

        private int joinUnits() {
            if (token == T_AND) {
                question.join(Question.BOTH_HOLD);
                return AT_UNIT;
            }
            if (token == T_OR) {
                question.join(Question.EITHER_HOLDS);
                return AT_UNIT;
            }
            if (token != T_CLOSE || depth == 0) return BROKEN;
            depth--;
            question.closeParenthesis();
            return AT_JOIN;
        }

        private int takeVerb() {
            if (token != T_FORCES && token != T_KEEPS && token != T_AGAIN) return BROKEN;
            question.kind[question.unit] = token;
            return AT_FIRST;
        }

        private int takeMember(int places) {
            if (!isPlaceNumber(places)) return BROKEN;
            question.bits[question.unit] |= 1 << value;
            return AT_MORE;
        }

        private boolean takePlace(int places) {
            if (!isPlaceNumber(places)) return false;
            question.at[question.unit] = value;
            return true;
        }

        private int takeSide() {
            if (token != T_ABOVE && token != T_BELOW) return BROKEN;
            question.kind[question.unit] = token;
            return AT_BOUND;
        }

        private boolean takeBound() {
            if (token != T_NUMBER || value == NONE) return false;
            question.bound[question.unit] = value;
            return true;
        }

        private int endUnit() {
            question.endUnit();
            return AT_JOIN;
        }

        private boolean isPlaceNumber(int places) {
            return token == T_NUMBER && value != NONE && value < places;
        }

        private void readToken() {
            while (cursor < length && bytes[cursor] == BLANK) {
                cursor++;
            }
            first = cursor;
            if (cursor >= length) {
                token = T_END;
                return;
            }
            int sign = bytes[cursor++];
            if (isLetter(sign)) {
                while (cursor < length && isLetter(bytes[cursor])) {
                    cursor++;
                }
                token = wordToken();
            } else if (isDigit(sign)) {
                while (cursor < length && isDigit(bytes[cursor])) {
                    cursor++;
                }
                token = T_NUMBER;
                value = numberValue();
            } else {
                token = sign == '(' ? T_OPEN : sign == ')' ? T_CLOSE : T_STRANGE;
            }
        }

        private static boolean isLetter(int sign) {
            return sign >= 'a' && sign <= 'z';
        }

        private static boolean isDigit(int sign) {
            return sign >= '0' && sign <= '9';
        }

        /** The value of the number that was read last; NONE: it has too many digits. */
        private int numberValue() {
            if (cursor - first > MOST_DIGITS) return NONE;
            int sum = 0;
            for (int i = first; i < cursor; i++) {
                sum = sum * 10 + bytes[i] - '0';
            }
            return sum;
        }

        private int wordToken() {
            if (isWord("not")) return T_NOT;
            if (isWord("and")) return T_AND;
            if (isWord("or")) return T_OR;
            if (isWord("one")) return T_ONE;
            if (isWord("other")) return T_OTHER;
            if (isWord("from")) return T_FROM;
            if (isWord("forces")) return T_FORCES;
            if (isWord("keeps")) return T_KEEPS;
            if (isWord("again")) return T_AGAIN;
            if (isWord("even")) return T_EVEN;
            if (isWord("mean")) return T_MEAN;
            if (isWord("above")) return T_ABOVE;
            if (isWord("below")) return T_BELOW;
            return T_STRANGE;
        }

        private boolean isWord(String word) {
            if (word.length() != cursor - first) return false;
            for (int i = 0; i < word.length(); i++) {
                if (bytes[first + i] != word.charAt(i)) return false;
            }
            return true;
        }
    }
}
