/**
 * Small combinatorial objects, listed in order, numbered, and stepped through.
 *
 * No list of objects is kept. How many objects share a beginning is known for each sort, and adding
 * these up over the beginnings that come earlier gives an object's number, and back.
 */
public final class RankedObjects {
    public static final int CHOICES = 0;
    public static final int ORDERS = 1;
    public static final int GROUPINGS = 2;
    public static final int NESTINGS = 3;
    public static final int PARTS = 4;
    public static final int BAD = -1;
    public static final int NONE = -2;

    private static final int LARGEST_SIZE = 7;
    private static final int LONGEST_LIST = 14;
    private static final int BINOMIAL_ROWS = 16;
    private static final int BINOMIAL_CELLS = 256;
    private static final int GROUPING_ROWS = 8;
    private static final int GROUPING_CELLS = 64;

    private final int[] binomials = new int[BINOMIAL_CELLS];
    private final int[] groupings = new int[GROUPING_CELLS];
    private final int[] list = new int[LONGEST_LIST];
    private final int[] other = new int[LONGEST_LIST];
    private int sort;
    private int n;
    private int k;
    private int length;
    private int total;
    private int current;

    public RankedObjects() {
        fillBinomials();
        fillGroupings();
        start(ORDERS, 3, 0);
    }

    public boolean choose(int sort, int n, int k) {
        if (sort < CHOICES || sort > PARTS || n < 1 || n > LARGEST_SIZE) {
            return false;
        }
        boolean sized = sort == CHOICES || sort == PARTS;
        if (sized && (k < 0 || k > n)) {
            return false;
        }
        start(sort, n, k);
        return true;
    }

    public int count() {
        return total;
    }

    public int number() {
        return total == 0 ? NONE : current;
    }

    public int item(int i) {
        return hasItem(i) ? list[i] : BAD;
    }

    public int go(int number) {
        if (!isListed(number)) {
            return BAD;
        }
        current = number;
        writeObject(list, current);
        return current;
    }

    public int next() {
        if (!isListed(current + 1)) {
            return NONE;
        }
        current++;
        writeObject(list, current);
        return current;
    }

    public int previous() {
        if (!isListed(current - 1)) {
            return NONE;
        }
        current--;
        writeObject(list, current);
        return current;
    }

    public int firstLike(int i) {
        return hasItem(i) ? firstWith(list, i) : BAD;
    }

    public int like(int i) {
        return hasItem(i) ? waysWith(list, i, list[i]) : BAD;
    }

    public int difference(int number) {
        if (!isListed(number)) {
            return BAD;
        }
        writeObject(other, number);
        int differing = 0;
        for (int place = 0; place < length; place++) {
            if (list[place] != other[place]) {
                differing++;
            }
        }
        return differing;
    }

    public int mirrored() {
        if (sort == GROUPINGS || total == 0) {
            return NONE;
        }
        for (int place = 0; place < length; place++) {
            other[place] = mirrorImage(list[length - 1 - place]);
        }
        return firstWith(other, length - 1);
    }

    private boolean hasItem(int i) {
        return total > 0 && i >= 0 && i < length;
    }

    private boolean isListed(int number) {
        return number >= 0 && number < total;
    }

    private void start(int newSort, int newN, int newK) {
        sort = newSort;
        n = newN;
        k = newK;
        length = listLength();
        total = countObjects();
        current = 0;
        writeObject(list, current);
    }

    private int listLength() {
        switch (sort) {
            case CHOICES:
            case PARTS:
                return k;
            case NESTINGS:
                return 2 * n;
            default:
                return n;
        }
    }

    private int countObjects() {
        if (length == 0) {
            // The empty list is a choice of nothing, but it does not sum to n, which is 1 or more.
            return sort == CHOICES ? 1 : 0;
        }
        int objects = 0;
        for (int value = 0; value <= n; value++) {
            objects += waysWith(list, 0, value);
        }
        return objects;
    }

    private void writeObject(int[] target, int number) {
        int rest = number;
        for (int place = 0; place < length; place++) {
            int value = 0;
            int ways = waysWith(target, place, value);
            while (value < n && rest >= ways) {
                rest -= ways;
                value++;
                ways = waysWith(target, place, value);
            }
            target[place] = value;
        }
    }

    /** The number of the first object that has the beginning of source up to and including a place. */
    private int firstWith(int[] source, int lastPlace) {
        int before = 0;
        for (int place = 0; place <= lastPlace; place++) {
            for (int value = 0; value < source[place]; value++) {
                before += waysWith(source, place, value);
            }
        }
        return before;
    }

    /** How many objects begin with the numbers of source before a place and then have value there. */
    private int waysWith(int[] source, int place, int value) {
        switch (sort) {
            case CHOICES:
                return choiceWays(source, place, value);
            case ORDERS:
                return orderWays(source, place, value);
            case GROUPINGS:
                return groupingWays(source, place, value);
            case NESTINGS:
                return nestingWays(source, place, value);
            default:
                return partWays(source, place, value);
        }
    }

    private int choiceWays(int[] source, int place, int value) {
        if (place > 0 && value <= source[place - 1]) {
            return 0;
        }
        return binomial(n - 1 - value, k - 1 - place);
    }

    private int orderWays(int[] source, int place, int value) {
        if (value >= n) {
            return 0;
        }
        for (int earlier = 0; earlier < place; earlier++) {
            if (source[earlier] == value) {
                return 0;
            }
        }
        int ways = 1;
        for (int factor = 2; factor < n - place; factor++) {
            ways *= factor;
        }
        return ways;
    }

    private int groupingWays(int[] source, int place, int value) {
        // With -1 as the greatest of none, the first number can only be 0, as the document asks.
        int greatest = -1;
        for (int earlier = 0; earlier < place; earlier++) {
            if (source[earlier] > greatest) {
                greatest = source[earlier];
            }
        }
        if (value > greatest + 1) {
            return 0;
        }
        return groupingEnds(n - 1 - place, value > greatest ? value : greatest);
    }

    private int nestingWays(int[] source, int place, int value) {
        if (value > 1) {
            return 0;
        }
        int open = value == 1 ? 1 : -1;
        for (int earlier = 0; earlier < place; earlier++) {
            open += source[earlier] == 1 ? 1 : -1;
        }
        int left = length - 1 - place;
        if (open < 0 || open > left) {
            return 0;
        }
        // Of all ways to place the ones still due, those that once have too many zeros are as many as
        // the ways to place one fewer (reflect the rest after the first such place).
        int ones = (left - open) / 2;
        return binomial(left, ones) - binomial(left, ones - 1);
    }

    private int partWays(int[] source, int place, int value) {
        int rest = n - value;
        for (int earlier = 0; earlier < place; earlier++) {
            rest -= source[earlier];
        }
        int left = k - 1 - place;
        if (left == 0) {
            return rest == 0 ? 1 : 0;
        }
        // Sharing rest among the places left is choosing where left - 1 bars stand between its units.
        return rest < 0 ? 0 : binomial(rest + left - 1, left - 1);
    }

    private int mirrorImage(int value) {
        if (sort == CHOICES) {
            return n - 1 - value;
        }
        return sort == NESTINGS ? 1 - value : value;
    }

    private int binomial(int from, int chosen) {
        if (from < 0 || from >= BINOMIAL_ROWS || chosen < 0 || chosen > from) {
            return 0;
        }
        return binomials[from * BINOMIAL_ROWS + chosen];
    }

    /** In how many ways a grouping goes on for so many numbers after this greatest one. */
    private int groupingEnds(int left, int greatest) {
        if (left < 0 || left >= GROUPING_ROWS || greatest < 0 || greatest >= GROUPING_ROWS) {
            return 0;
        }
        return groupings[left * GROUPING_ROWS + greatest];
    }

    private void fillBinomials() {
        for (int from = 0; from < BINOMIAL_ROWS; from++) {
            int row = from * BINOMIAL_ROWS;
            binomials[row] = 1;
            for (int chosen = 1; chosen <= from; chosen++) {
                int above = row - BINOMIAL_ROWS + chosen;
                binomials[row + chosen] = binomials[above - 1] + binomials[above];
            }
        }
    }

    private void fillGroupings() {
        for (int greatest = 0; greatest < GROUPING_ROWS; greatest++) {
            groupings[greatest] = 1;
        }
        for (int left = 1; left < GROUPING_ROWS; left++) {
            // A greater greatest cannot occur with so many numbers left, as n is at most 7.
            for (int greatest = 0; greatest < GROUPING_ROWS - left; greatest++) {
                int below = (left - 1) * GROUPING_ROWS + greatest;
                int stay = (greatest + 1) * groupings[below];
                groupings[left * GROUPING_ROWS + greatest] = stay + groupings[below + 1];
            }
        }
    }
}
