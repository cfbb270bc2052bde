import java.util.ArrayList;
import java.util.Arrays;
import java.util.HashMap;
import java.util.List;
import java.util.Map;

/**
 * Every list of objects there is, found here by trying all tuples in lexicographic order against the
 * definition, and every object of each list asked everything.
 */
public final class WholeListsTest {
    private static int wrong = 0;

    private final int sort;
    private final int n;
    private final int k;
    private final List<int[]> objects;
    private final Map<String, Integer> firstWith = new HashMap<>();
    private final Map<String, Integer> countWith = new HashMap<>();

    private WholeListsTest(int sort, int n, int k) {
        this.sort = sort;
        this.n = n;
        this.k = k;
        this.objects = allObjects();
        for (int number = 0; number < objects.size(); number++) {
            int[] object = objects.get(number);
            for (int size = 0; size <= object.length; size++) {
                String beginning = beginning(object, size);
                firstWith.putIfAbsent(beginning, number);
                countWith.merge(beginning, 1, Integer::sum);
            }
        }
    }

    public static void main(String[] args) {
        for (int n = 1; n <= 7; n++) {
            for (int sort = 0; sort <= 4; sort++) {
                boolean sized = sort == 0 || sort == 4;
                for (int k = 0; k <= (sized ? n : 0); k++) {
                    new WholeListsTest(sort, n, k).check();
                }
            }
        }
        System.out.println(wrong == 0 ? "all answers are as due" : wrong + " answers are not as due");
        if (wrong != 0) {
            System.exit(1);
        }
    }

    private void due(int number, String call, int got, int want) {
        if (got != want) {
            wrong++;
            String object = "sort " + sort + ", n " + n + ", k " + k + ", number " + number;
            System.out.println(object + ": " + call + " answered " + got + ", due is " + want);
        }
    }

    private static String beginning(int[] object, int size) {
        return Arrays.toString(Arrays.copyOf(object, size));
    }

    private int length() {
        return sort == 0 || sort == 4 ? k : sort == 3 ? 2 * n : n;
    }

    private List<int[]> allObjects() {
        List<int[]> found = new ArrayList<>();
        int greatest = sort == 3 ? 1 : sort == 4 ? n : n - 1;
        int[] tuple = new int[length()];
        int place;
        do {
            if (isObject(tuple)) {
                found.add(tuple.clone());
            }
            place = tuple.length - 1;
            while (place >= 0 && tuple[place] == greatest) {
                tuple[place] = 0;
                place--;
            }
            if (place >= 0) {
                tuple[place]++;
            }
        } while (place >= 0);
        return found;
    }

    private boolean isObject(int[] tuple) {
        switch (sort) {
            case 0:
                return isAscending(tuple);
            case 1:
                return Arrays.stream(tuple).distinct().count() == n;
            case 2:
                return isGrouping(tuple);
            case 3:
                return isNesting(tuple);
            default:
                return Arrays.stream(tuple).sum() == n;
        }
    }

    private static boolean isAscending(int[] tuple) {
        for (int i = 1; i < tuple.length; i++) {
            if (tuple[i] <= tuple[i - 1]) {
                return false;
            }
        }
        return true;
    }

    private static boolean isGrouping(int[] tuple) {
        int greatest = tuple[0];
        for (int number : tuple) {
            if (number > greatest + 1) {
                return false;
            }
            greatest = Math.max(greatest, number);
        }
        return tuple[0] == 0;
    }

    private static boolean isNesting(int[] tuple) {
        int zeros = 0;
        int ones = 0;
        for (int number : tuple) {
            if (number == 0) {
                zeros++;
            } else {
                ones++;
            }
            if (zeros > ones) {
                return false;
            }
        }
        return zeros == ones;
    }

    /** An object is promised 512 calls, so each number gets objects of its own. */
    private RankedObjects at(int number) {
        RankedObjects x = new RankedObjects();
        due(number, "choose", x.choose(sort, n, k) ? 1 : 0, 1);
        if (number >= 0) {
            due(number, "go", x.go(number), number);
        }
        return x;
    }

    private void check() {
        due(-1, "count()", at(-1).count(), objects.size());
        due(-1, "number()", at(-1).number(), objects.isEmpty() ? RankedObjects.NONE : 0);
        due(-1, "go past the end", at(-1).go(objects.size()), RankedObjects.BAD);
        for (int number = 0; number < objects.size(); number++) {
            checkList(number, at(number), number);
            checkSteps(number);
            checkBeginnings(number);
            checkMirrored(number);
            checkDifferences(number);
        }
    }

    private void checkList(int from, RankedObjects x, int number) {
        due(from, "number()", x.number(), number);
        for (int i = 0; i < length(); i++) {
            due(from, "item(" + i + ") of " + number, x.item(i), objects.get(number)[i]);
        }
        due(from, "item(-1)", x.item(-1), RankedObjects.BAD);
        due(from, "item(" + length() + ")", x.item(length()), RankedObjects.BAD);
    }

    private void checkSteps(int number) {
        boolean last = number == objects.size() - 1;
        RankedObjects up = at(number);
        due(number, "next()", up.next(), last ? RankedObjects.NONE : number + 1);
        checkList(number, up, last ? number : number + 1);
        boolean first = number == 0;
        RankedObjects down = at(number);
        due(number, "previous()", down.previous(), first ? RankedObjects.NONE : number - 1);
        checkList(number, down, first ? number : number - 1);
    }

    private void checkBeginnings(int number) {
        RankedObjects x = at(number);
        for (int i = 0; i < length(); i++) {
            String beginning = beginning(objects.get(number), i + 1);
            due(number, "firstLike(" + i + ")", x.firstLike(i), firstWith.get(beginning));
            due(number, "like(" + i + ")", x.like(i), countWith.get(beginning));
        }
        for (int i : new int[] {-1, length()}) {
            due(number, "firstLike(" + i + ")", x.firstLike(i), RankedObjects.BAD);
            due(number, "like(" + i + ")", x.like(i), RankedObjects.BAD);
        }
        checkList(number, x, number);
    }

    private void checkMirrored(int number) {
        RankedObjects x = at(number);
        due(number, "mirrored()", x.mirrored(), mirroredNumber(objects.get(number)));
        checkList(number, x, number);
    }

    private int mirroredNumber(int[] object) {
        if (sort == 2) {
            return RankedObjects.NONE;
        }
        int[] image = new int[object.length];
        for (int i = 0; i < object.length; i++) {
            int number = object[object.length - 1 - i];
            image[i] = sort == 0 ? n - 1 - number : sort == 3 ? 1 - number : number;
        }
        return firstWith.get(beginning(image, image.length));
    }

    private void checkDifferences(int number) {
        RankedObjects x = at(number);
        int size = objects.size();
        int stride = size / 40 + 1;
        for (int other = number % stride; other < size; other += stride) {
            due(number, "difference(" + other + ")", x.difference(other), differing(number, other));
        }
        due(number, "difference(-1)", x.difference(-1), RankedObjects.BAD);
        due(number, "difference(" + size + ")", x.difference(size), RankedObjects.BAD);
        checkList(number, x, number);
    }

    private int differing(int number, int other) {
        int places = 0;
        for (int i = 0; i < length(); i++) {
            if (objects.get(number)[i] != objects.get(other)[i]) {
                places++;
            }
        }
        return places;
    }
}
