/** Each promise by itself, with lists written out by hand; BoundariesTest has the boundary cases in full. */
public final class PromisesTest {
    private static final int LOWEST = Integer.MIN_VALUE;
    private static final int HIGHEST = Integer.MAX_VALUE;

    private static int wrong = 0;

    public static void main(String[] args) {
        newObject();
        choose();
        count();
        number();
        item();
        go();
        next();
        previous();
        firstLike();
        like();
        difference();
        mirrored();
        onlyObject();
        shorterAfterLonger();
        longestLists();
        lastOfManyCalls();
        readme();
        System.out.println(wrong == 0 ? "all answers are as due" : wrong + " answers are not as due");
        if (wrong != 0) {
            System.exit(1);
        }
    }

    private static void due(String what, int got, int want) {
        if (got != want) {
            wrong++;
            System.out.println(what + " answered " + got + ", due is " + want);
        }
    }

    private static void due(String what, boolean got, boolean want) {
        due(what, got ? 1 : 0, want ? 1 : 0);
    }

    private static void dueList(String what, RankedObjects x, int... want) {
        for (int i = 0; i < want.length; i++) {
            due(what + ": item(" + i + ")", x.item(i), want[i]);
        }
        due(what + ": item past the end", x.item(want.length), RankedObjects.BAD);
    }

    private static RankedObjects made(int sort, int n, int k, int number) {
        RankedObjects x = new RankedObjects();
        due("choose(" + sort + ", " + n + ", " + k + ")", x.choose(sort, n, k), true);
        due("go(" + number + ")", x.go(number), number);
        return x;
    }

    private static void newObject() {
        RankedObjects x = new RankedObjects();
        due("promise 1: count()", x.count(), 6);
        due("promise 1: number()", x.number(), 0);
        dueList("promise 1", x, 0, 1, 2);
        due("promise 1: mirrored()", x.mirrored(), 5);
    }

    private static void choose() {
        for (int sort = 0; sort <= 4; sort++) {
            RankedObjects x = made(sort, 4, 3, 2);
            due("promise 2: choose again, sort " + sort, x.choose(sort, 4, 3), true);
            due("promise 2: number(), sort " + sort, x.number(), 0);
        }
        RankedObjects x = made(1, 4, 0, 20);
        due("promise 2: choose(0, 5, 3)", x.choose(0, 5, 3), true);
        dueList("promise 2, choices", x, 0, 1, 2);
        due("promise 2: choose(2, 4, 0)", x.choose(2, 4, 0), true);
        dueList("promise 2, groupings", x, 0, 0, 0, 0);
        due("promise 2: choose(3, 2, 0)", x.choose(3, 2, 0), true);
        dueList("promise 2, nestings", x, 1, 0, 1, 0);
        due("promise 2: choose(4, 3, 2)", x.choose(4, 3, 2), true);
        dueList("promise 2, parts", x, 0, 3);
        due("promise 2: choose(1, 2, 0)", x.choose(1, 2, 0), true);
        dueList("promise 2, orders", x, 0, 1);
        for (int sort = 1; sort <= 3; sort++) {
            int counted = made(sort, 3, 0, 0).count();
            for (int k : new int[] {LOWEST, -1, 3, 4, 8, HIGHEST}) {
                due("promise 2: k " + k + " plays no part", made(sort, 3, k, 1).count(), counted);
            }
        }
        for (int sort : new int[] {0, 4}) {
            for (int k = 1; k <= 7; k++) {
                made(sort, 7, k, 0);
            }
        }
    }

    private static void count() {
        int[][] counts = {
            {0, 6, 3, 20}, {0, 7, 7, 1}, {0, 7, 0, 1}, {0, 1, 1, 1}, {0, 7, 4, 35},
            {1, 1, 0, 1}, {1, 4, 0, 24}, {1, 7, 0, 5040},
            {2, 1, 0, 1}, {2, 4, 0, 15}, {2, 7, 0, 877},
            {3, 1, 0, 1}, {3, 3, 0, 5}, {3, 7, 0, 429},
            {4, 1, 1, 1}, {4, 3, 2, 4}, {4, 7, 1, 1}, {4, 7, 7, 1716}, {4, 7, 0, 0}, {4, 1, 0, 0},
        };
        for (int[] c : counts) {
            RankedObjects x = new RankedObjects();
            x.choose(c[0], c[1], c[2]);
            due("promise 3: count() of " + c[0] + ", " + c[1] + ", " + c[2], x.count(), c[3]);
        }
    }

    private static void number() {
        RankedObjects x = made(3, 4, 0, 9);
        due("promise 4: number() after go", x.number(), 9);
        x.next();
        due("promise 4: number() after next", x.number(), 10);
        x.previous();
        x.previous();
        due("promise 4: number() after previous", x.number(), 8);
        x.firstLike(1);
        x.like(1);
        x.difference(3);
        x.mirrored();
        x.item(0);
        due("promise 4: number() after questions", x.number(), 8);
    }

    private static void item() {
        dueList("promise 5, choices", made(0, 5, 3, 4), 0, 2, 4);
        dueList("promise 5, orders", made(1, 4, 0, 9), 1, 2, 3, 0);
        dueList("promise 5, groupings", made(2, 4, 0, 8), 0, 1, 1, 0);
        dueList("promise 5, nestings", made(3, 3, 0, 3), 1, 1, 0, 1, 0, 0);
        dueList("promise 5, parts", made(4, 4, 3, 7), 1, 2, 1);
        for (int i : new int[] {-1, 6, 7, 14, LOWEST, HIGHEST}) {
            due("promise 5: item(" + i + ")", made(3, 3, 0, 3).item(i), RankedObjects.BAD);
        }
        due("promise 5: item(2) after a longer list", shrunk().item(2), RankedObjects.BAD);
    }

    private static RankedObjects shrunk() {
        RankedObjects x = made(3, 7, 0, 428);
        x.choose(0, 7, 2);
        return x;
    }

    private static void go() {
        RankedObjects x = made(2, 5, 0, 30);
        dueList("promise 6", x, 0, 1, 1, 1, 2);
        for (int number : new int[] {-1, -2, 52, 53, LOWEST, HIGHEST}) {
            due("promise 6: go(" + number + ")", x.go(number), RankedObjects.BAD);
            due("promise 6: number() after go(" + number + ")", x.number(), 30);
            dueList("promise 6: after go(" + number + ")", x, 0, 1, 1, 1, 2);
        }
        due("promise 6: go(51)", x.go(51), 51);
        dueList("promise 6, last", x, 0, 1, 2, 3, 4);
        due("promise 6: go(0)", x.go(0), 0);
        dueList("promise 6, first", x, 0, 0, 0, 0, 0);
    }

    private static void next() {
        RankedObjects x = made(4, 2, 2, 0);
        due("promise 7: next()", x.next(), 1);
        dueList("promise 7", x, 1, 1);
        due("promise 7: next()", x.next(), 2);
        due("promise 7: next() at the last", x.next(), RankedObjects.NONE);
        due("promise 7: number() at the last", x.number(), 2);
        dueList("promise 7, last", x, 2, 0);
    }

    private static void previous() {
        RankedObjects x = made(0, 4, 2, 5);
        due("promise 8: previous()", x.previous(), 4);
        dueList("promise 8", x, 1, 3);
        x.go(1);
        due("promise 8: previous()", x.previous(), 0);
        due("promise 8: previous() at the first", x.previous(), RankedObjects.NONE);
        due("promise 8: number() at the first", x.number(), 0);
        dueList("promise 8, first", x, 0, 1);
    }

    private static void firstLike() {
        int[][] firsts = {
            {0, 5, 3, 8, 0, 6}, {0, 5, 3, 8, 1, 8}, {0, 5, 3, 8, 2, 8},
            {1, 4, 0, 9, 0, 6}, {1, 4, 0, 9, 1, 8}, {1, 4, 0, 9, 3, 9},
            {2, 4, 0, 8, 0, 0}, {2, 4, 0, 8, 1, 5}, {2, 4, 0, 8, 3, 8},
            {3, 3, 0, 3, 0, 0}, {3, 3, 0, 3, 1, 2}, {3, 3, 0, 3, 5, 3},
            {4, 4, 3, 7, 0, 5}, {4, 4, 3, 7, 1, 7}, {4, 4, 3, 7, 2, 7},
        };
        for (int[] f : firsts) {
            RankedObjects x = made(f[0], f[1], f[2], f[3]);
            due("promise 9: firstLike(" + f[4] + ") of sort " + f[0], x.firstLike(f[4]), f[5]);
        }
        for (int i : new int[] {-1, 3, 4, LOWEST, HIGHEST}) {
            due("promise 9: firstLike(" + i + ")", new RankedObjects().firstLike(i), RankedObjects.BAD);
        }
        due("promise 9: firstLike(2) after a longer list", shrunk().firstLike(2), RankedObjects.BAD);
    }

    private static void like() {
        int[][] likes = {
            {0, 5, 3, 8, 0, 3}, {0, 5, 3, 8, 1, 1}, {0, 5, 3, 8, 2, 1},
            {1, 4, 0, 9, 0, 6}, {1, 4, 0, 9, 1, 2}, {1, 4, 0, 9, 3, 1},
            {2, 4, 0, 8, 0, 15}, {2, 4, 0, 8, 1, 10}, {2, 4, 0, 8, 3, 1},
            {3, 3, 0, 3, 0, 5}, {3, 3, 0, 3, 1, 3}, {3, 3, 0, 3, 5, 1},
            {4, 4, 3, 7, 0, 4}, {4, 4, 3, 7, 1, 1}, {4, 4, 3, 7, 2, 1},
        };
        for (int[] l : likes) {
            RankedObjects x = made(l[0], l[1], l[2], l[3]);
            due("promise 10: like(" + l[4] + ") of sort " + l[0], x.like(l[4]), l[5]);
        }
        for (int i : new int[] {-1, 3, 4, LOWEST, HIGHEST}) {
            due("promise 10: like(" + i + ")", new RankedObjects().like(i), RankedObjects.BAD);
        }
        due("promise 10: like(2) after a longer list", shrunk().like(2), RankedObjects.BAD);
    }

    private static void difference() {
        RankedObjects x = made(1, 3, 0, 1);
        int[] want = {2, 0, 3, 2, 2, 3};
        for (int number = 0; number < want.length; number++) {
            due("promise 11: difference(" + number + ")", x.difference(number), want[number]);
        }
        for (int number : new int[] {-1, 6, 7, LOWEST, HIGHEST}) {
            due("promise 11: difference(" + number + ")", x.difference(number), RankedObjects.BAD);
        }
        due("promise 11: number() after it", x.number(), 1);
        dueList("promise 11: after it", x, 0, 2, 1);
    }

    private static void mirrored() {
        due("promise 12, choices", made(0, 5, 2, 1).mirrored(), 8);
        due("promise 12, orders", made(1, 3, 0, 1).mirrored(), 3);
        due("promise 12, groupings", made(2, 3, 0, 1).mirrored(), RankedObjects.NONE);
        due("promise 12, nestings", made(3, 3, 0, 1).mirrored(), 2);
        due("promise 12, parts", made(4, 4, 3, 3).mirrored(), 8);
        RankedObjects x = made(0, 5, 2, 1);
        x.mirrored();
        due("promise 12: number() after it", x.number(), 1);
        dueList("promise 12: after it", x, 0, 2);
    }

    private static void onlyObject() {
        RankedObjects x = made(0, 3, 3, 0);
        dueList("only choice", x, 0, 1, 2);
        due("only choice: next()", x.next(), RankedObjects.NONE);
        due("only choice: previous()", x.previous(), RankedObjects.NONE);
        due("only choice: firstLike(2)", x.firstLike(2), 0);
        due("only choice: like(0)", x.like(0), 1);
        due("only choice: mirrored()", x.mirrored(), 0);
        dueList("only order", made(1, 1, 0, 0), 0);
        dueList("only grouping", made(2, 1, 0, 0), 0);
        dueList("only nesting", made(3, 1, 0, 0), 1, 0);
        dueList("only part", made(4, 7, 1, 0), 7);
    }

    /** What an earlier, longer list left behind must not count. */
    private static void shorterAfterLonger() {
        RankedObjects x = made(1, 7, 0, 5039);
        x.difference(0);
        x.mirrored();
        due("shorter: choose(0, 5, 2)", x.choose(0, 5, 2), true);
        due("shorter: difference(9)", x.difference(9), 2);
        due("shorter: mirrored()", x.mirrored(), 9);
        due("shorter: choose(0, 5, 0)", x.choose(0, 5, 0), true);
        due("shorter: difference(0)", x.difference(0), 0);
        due("shorter: mirrored()", x.mirrored(), 0);
    }

    private static void longestLists() {
        RankedObjects x = made(3, 7, 0, 428);
        dueList("longest", x, 1, 1, 1, 1, 1, 1, 1, 0, 0, 0, 0, 0, 0, 0);
        due("longest: firstLike(13)", x.firstLike(13), 428);
        due("longest: like(13)", x.like(13), 1);
        due("longest: difference(0)", x.difference(0), 6);
        due("longest: mirrored()", x.mirrored(), 428);
    }

    private static void lastOfManyCalls() {
        RankedObjects x = new RankedObjects();
        x.choose(2, 7, 0);
        for (int step = 1; step <= 510; step++) {
            due("call " + (step + 1) + ": next()", x.next(), step);
        }
        due("call 512: number()", x.number(), 510);
    }

    /** The run of calls that README.md shows. */
    private static void readme() {
        RankedObjects x = new RankedObjects();
        dueList("readme: new", x, 0, 1, 2);
        due("readme: choose", x.choose(RankedObjects.CHOICES, 6, 3), true);
        due("readme: count()", x.count(), 20);
        due("readme: go(10)", x.go(10), 10);
        dueList("readme: go(10)", x, 1, 2, 3);
        due("readme: next()", x.next(), 11);
        dueList("readme: next()", x, 1, 2, 4);
        due("readme: firstLike(0)", x.firstLike(0), 10);
        due("readme: like(0)", x.like(0), 6);
        due("readme: difference(10)", x.difference(10), 1);
        due("readme: mirrored()", x.mirrored(), 13);
        x.go(13);
        dueList("readme: the mirror image", x, 1, 3, 4);
    }
}
