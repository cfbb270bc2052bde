import java.util.ArrayList;
import java.util.Arrays;
import java.util.HashMap;
import java.util.List;
import java.util.Map;

/**
 * Every list of objects there is, found here by trying all tuples in lexicographic order against the
 * definition: every object of each list asked everything, and long runs of mixed calls over all lists.
 */
public final class WholeListsTest {
    private static final int RUNS = 3000;

    /** The most calls that the document promises an object. */
    private static final int CALLS = 512;

    private static int wrong = 0;

    private final int sort;
    private final int n;
    private final int k;
    private final List<int[]> objects;
    private final Map<String, Integer> firstWith = new HashMap<>();
    private final Map<String, Integer> countWith = new HashMap<>();

    private WholeListsTest(int sort, int n, int k) {
        this.sort = sort;
        this.n = n;
        this.k = k;
        this.objects = allObjects();
        for (int number = 0; number < objects.size(); number++) {
            int[] object = objects.get(number);
            for (int size = 0; size <= object.length; size++) {
                String beginning = beginning(object, size);
                firstWith.putIfAbsent(beginning, number);
                countWith.merge(beginning, 1, Integer::sum);
            }
        }
    }

    public static void main(String[] args) {
        Map<String, WholeListsTest> all = new HashMap<>();
        for (int n = 1; n <= 7; n++) {
            for (int sort = 0; sort <= 4; sort++) {
                boolean sized = sort == 0 || sort == 4;
                for (int k = 0; k <= (sized ? n : 0); k++) {
                    WholeListsTest lists = new WholeListsTest(sort, n, k);
                    lists.check();
                    all.put(sort + " " + n + " " + k, lists);
                }
            }
        }
        for (int seed = 0; seed < RUNS; seed++) {
            new MixedRun(all, seed).go();
        }
        System.out.println(wrong == 0 ? "all answers are as due" : wrong + " answers are not as due");
        if (wrong != 0) {
            System.exit(1);
        }
    }

    private void due(int number, String call, int got, int want) {
        if (got != want) {
            wrong++;
            String object = "sort " + sort + ", n " + n + ", k " + k + ", number " + number;
            System.out.println(object + ": " + call + " answered " + got + ", due is " + want);
        }
    }

    private static String beginning(int[] object, int size) {
        return Arrays.toString(Arrays.copyOf(object, size));
    }

    private int length() {
        return sort == 0 || sort == 4 ? k : sort == 3 ? 2 * n : n;
    }

    private List<int[]> allObjects() {
        List<int[]> found = new ArrayList<>();
        int greatest = sort == 3 ? 1 : sort == 4 ? n : n - 1;
        int[] tuple = new int[length()];
        int place;
        do {
            if (isObject(tuple)) {
                found.add(tuple.clone());
            }
            place = tuple.length - 1;
            while (place >= 0 && tuple[place] == greatest) {
                tuple[place] = 0;
                place--;
            }
            if (place >= 0) {
                tuple[place]++;
            }
        } while (place >= 0);
        return found;
    }

    private boolean isObject(int[] tuple) {
        switch (sort) {
            case 0:
                return isAscending(tuple);
            case 1:
                return Arrays.stream(tuple).distinct().count() == n;
            case 2:
                return isGrouping(tuple);
            case 3:
                return isNesting(tuple);
            default:
                return Arrays.stream(tuple).sum() == n;
        }
    }

    private static boolean isAscending(int[] tuple) {
        for (int i = 1; i < tuple.length; i++) {
            if (tuple[i] <= tuple[i - 1]) {
                return false;
            }
        }
        return true;
    }

    private static boolean isGrouping(int[] tuple) {
        int greatest = tuple[0];
        for (int number : tuple) {
            if (number > greatest + 1) {
                return false;
            }
            greatest = Math.max(greatest, number);
        }
        return tuple[0] == 0;
    }

    private static boolean isNesting(int[] tuple) {
        int zeros = 0;
        int ones = 0;
        for (int number : tuple) {
            if (number == 0) {
                zeros++;
            } else {
                ones++;
            }
            if (zeros > ones) {
                return false;
            }
        }
        return zeros == ones;
    }

    /** An object is promised 512 calls, so each number gets objects of its own. */
    private RankedObjects at(int number) {
        RankedObjects x = new RankedObjects();
        due(number, "choose", x.choose(sort, n, k) ? 1 : 0, 1);
        if (number >= 0) {
            due(number, "go", x.go(number), number);
        }
        return x;
    }

    private void check() {
        due(-1, "count()", at(-1).count(), objects.size());
        due(-1, "number()", at(-1).number(), objects.isEmpty() ? RankedObjects.NONE : 0);
        due(-1, "go past the end", at(-1).go(objects.size()), RankedObjects.BAD);
        for (int number = 0; number < objects.size(); number++) {
            checkList(number, at(number), number);
            checkSteps(number);
            checkBeginnings(number);
            checkMirrored(number);
            checkDifferences(number);
        }
        walkUp();
        walkDown();
    }

    /** From end to end, with a new object wherever the old one's calls are used up. */
    private void walkUp() {
        int perObject = callsLeft() / (length() + 1);
        RankedObjects x = at(-1);
        for (int number = 1; number < objects.size(); number++) {
            if (number % perObject == 0) {
                x = at(number - 1);
            }
            due(number - 1, "next() on the way up", x.next(), number);
            dueItems(number, x, number);
        }
    }

    private void walkDown() {
        int perObject = callsLeft() / (length() + 1);
        RankedObjects x = at(objects.size() - 1);
        for (int number = objects.size() - 2; number >= 0; number--) {
            if (number % perObject == 0) {
                x = at(number + 1);
            }
            due(number + 1, "previous() on the way down", x.previous(), number);
            dueItems(number, x, number);
        }
    }

    /** After the two calls of at. */
    private static int callsLeft() {
        return CALLS - 2;
    }

    private void checkList(int from, RankedObjects x, int number) {
        due(from, "number()", x.number(), number);
        dueItems(from, x, number);
        due(from, "item(-1)", x.item(-1), RankedObjects.BAD);
        due(from, "item(" + length() + ")", x.item(length()), RankedObjects.BAD);
    }

    private void dueItems(int from, RankedObjects x, int number) {
        for (int i = 0; i < length(); i++) {
            due(from, "item(" + i + ") of " + number, x.item(i), objects.get(number)[i]);
        }
    }

    private void checkSteps(int number) {
        boolean last = number == objects.size() - 1;
        RankedObjects up = at(number);
        due(number, "next()", up.next(), last ? RankedObjects.NONE : number + 1);
        checkList(number, up, last ? number : number + 1);
        boolean first = number == 0;
        RankedObjects down = at(number);
        due(number, "previous()", down.previous(), first ? RankedObjects.NONE : number - 1);
        checkList(number, down, first ? number : number - 1);
    }

    private void checkBeginnings(int number) {
        RankedObjects x = at(number);
        for (int i = 0; i < length(); i++) {
            String beginning = beginning(objects.get(number), i + 1);
            due(number, "firstLike(" + i + ")", x.firstLike(i), firstWith.get(beginning));
            due(number, "like(" + i + ")", x.like(i), countWith.get(beginning));
        }
        for (int i : new int[] {-1, length()}) {
            due(number, "firstLike(" + i + ")", x.firstLike(i), RankedObjects.BAD);
            due(number, "like(" + i + ")", x.like(i), RankedObjects.BAD);
        }
        checkList(number, x, number);
    }

    private void checkMirrored(int number) {
        RankedObjects x = at(number);
        due(number, "mirrored()", x.mirrored(), mirroredNumber(objects.get(number)));
        checkList(number, x, number);
    }

    private int mirroredNumber(int[] object) {
        if (sort == 2) {
            return RankedObjects.NONE;
        }
        int[] image = new int[object.length];
        for (int i = 0; i < object.length; i++) {
            int number = object[object.length - 1 - i];
            image[i] = sort == 0 ? n - 1 - number : sort == 3 ? 1 - number : number;
        }
        return firstWith.get(beginning(image, image.length));
    }

    /** To every object of the list, and to none outside it. */
    private void checkDifferences(int number) {
        RankedObjects x = at(number);
        for (int other = -1; other <= objects.size(); other++) {
            if ((other + 2) % callsLeft() == 0) {
                x = at(number);
            }
            int got = x.difference(other);
            int want = isListed(other) ? differing(number, other) : RankedObjects.BAD;
            if (got != want) {
                due(number, "difference(" + other + ")", got, want);
            }
        }
        RankedObjects asked = at(number);
        asked.difference(objects.size() - 1 - number);
        checkList(number, asked, number);
    }

    private boolean isListed(int number) {
        return number >= 0 && number < objects.size();
    }

    private int differing(int number, int other) {
        int[] one = objects.get(number);
        int[] two = objects.get(other);
        int places = 0;
        for (int i = 0; i < one.length; i++) {
            if (one[i] != two[i]) {
                places++;
            }
        }
        return places;
    }

    /** One object through all its calls, among them refused ones, beside a number in a list kept here. */
    private static final class MixedRun {
        private final Map<String, WholeListsTest> all;
        private final RankedObjects x = new RankedObjects();
        private WholeListsTest lists;
        private int current = 0;
        private long mixed;

        MixedRun(Map<String, WholeListsTest> all, int seed) {
            this.all = all;
            this.mixed = seed;
            this.lists = all.get("1 3 0");
        }

        void go() {
            for (int call = 0; call < CALLS; call++) {
                int which = below(12);
                if (which == 0) {
                    choose();
                } else if (which <= 4) {
                    step(which);
                } else {
                    ask(which);
                }
            }
        }

        /** Reckoned from the run's number alone (Knuth's constants), so that a fault comes up each time. */
        private int nextInt() {
            mixed = mixed * 6364136223846793005L + 1442695040888963407L;
            return (int) (mixed >>> 32);
        }

        private int below(int bound) {
            return Math.floorMod(nextInt() >> 4, bound);
        }

        private int size() {
            return lists.objects.size();
        }

        /** Mostly from 0 to a bound, at times just outside or far outside. */
        private int near(int bound) {
            switch (below(8)) {
                case 0:
                    return -1 - below(2);
                case 1:
                    return bound + below(2);
                case 2:
                    return bound - 1;
                case 3:
                    return nextInt();
                default:
                    return bound <= 0 ? 0 : below(bound);
            }
        }

        private void due(String call, int got, int want) {
            lists.due(current, call, got, want);
        }

        private void choose() {
            int sort = near(5);
            int n = near(8);
            int k = near(n >= 1 && n <= 7 ? n + 1 : 8);
            boolean sized = sort == 0 || sort == 4;
            WholeListsTest chosen = all.get(sort + " " + n + " " + (sized ? k : 0));
            String call = "choose(" + sort + ", " + n + ", " + k + ")";
            due(call, x.choose(sort, n, k) ? 1 : 0, chosen == null ? 0 : 1);
            if (chosen != null) {
                lists = chosen;
                current = 0;
            }
        }

        private void step(int which) {
            int to = which == 1 ? current + 1 : which == 2 ? current - 1 : near(size());
            boolean there = lists.isListed(to);
            if (which == 1) {
                due("next()", x.next(), there ? to : RankedObjects.NONE);
            } else if (which == 2) {
                due("previous()", x.previous(), there ? to : RankedObjects.NONE);
            } else {
                due("go(" + to + ")", x.go(to), there ? to : RankedObjects.BAD);
            }
            current = there ? to : current;
        }

        private void ask(int which) {
            int i = near(lists.length());
            int other = near(size());
            switch (which) {
                case 5:
                    due("count()", x.count(), size());
                    break;
                case 6:
                    due("number()", x.number(), size() == 0 ? RankedObjects.NONE : current);
                    break;
                case 7:
                    due("difference(" + other + ")", x.difference(other), dueDifference(other));
                    break;
                case 8:
                    due("mirrored()", x.mirrored(), dueMirrored());
                    break;
                default:
                    askItem(which, i);
            }
        }

        private int dueDifference(int other) {
            return lists.isListed(other) ? lists.differing(current, other) : RankedObjects.BAD;
        }

        private int dueMirrored() {
            return size() == 0 ? RankedObjects.NONE : lists.mirroredNumber(lists.objects.get(current));
        }

        private void askItem(int which, int i) {
            boolean there = size() > 0 && i >= 0 && i < lists.length();
            int[] object = there ? lists.objects.get(current) : new int[0];
            if (which == 9) {
                due("item(" + i + ")", x.item(i), there ? object[i] : RankedObjects.BAD);
                return;
            }
            String beginning = there ? beginning(object, i + 1) : "";
            if (which == 10) {
                int first = there ? lists.firstWith.get(beginning) : RankedObjects.BAD;
                due("firstLike(" + i + ")", x.firstLike(i), first);
            } else {
                int number = there ? lists.countWith.get(beginning) : RankedObjects.BAD;
                due("like(" + i + ")", x.like(i), number);
            }
        }
    }
}
