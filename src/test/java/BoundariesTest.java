import java.util.ArrayList;
import java.util.List;

/**
 * Each sentence of the document that names a boundary case, tested by itself and in every sort and size
 * that it speaks of. A call that throws counts as a wrong answer of the sentence it was made for.
 */
public final class BoundariesTest {
    private static final int BAD = RankedObjects.BAD;
    private static final int NONE = RankedObjects.NONE;

    /** Too small for everything; the last ones would be small again if cut to fewer bits. */
    private static final int[] FAR_BELOW = {
        -1, -2, -3, -7, -8, -14, -100, -5040, -255, -256, -65535, -65536, -(1 << 28), -(1 << 30),
        Integer.MIN_VALUE + 1, Integer.MIN_VALUE,
    };

    /** Too large for everything, also for the longest list of 5040 objects. */
    private static final int[] FAR_ABOVE = {
        5040, 5041, 65536, 65537, 1 << 24, 1 << 28, (1 << 28) + 1, 1 << 30, (1 << 30) + 1,
        Integer.MAX_VALUE - 1, Integer.MAX_VALUE,
    };

    private static final List<Sizes> ALL = allSizes();

    private static String sentence = "";
    private static int sentences = 0;
    private static int wrong = 0;

    private record Sizes(int sort, int n, int k) {
        boolean hasK() {
            return sort == RankedObjects.CHOICES || sort == RankedObjects.PARTS;
        }

        boolean isEmpty() {
            return sort == RankedObjects.PARTS && k == 0;
        }

        int length() {
            return hasK() ? k : sort == RankedObjects.NESTINGS ? 2 * n : n;
        }

        RankedObjects made() {
            RankedObjects x = new RankedObjects();
            due(this + ": choose", x.choose(sort, n, k), true);
            return x;
        }

        RankedObjects at(int number) {
            RankedObjects x = made();
            due(this + ": go(" + number + ")", x.go(number), number);
            return x;
        }

        RankedObjects last() {
            return at(made().count() - 1);
        }
    }

    private interface Check {
        void run();
    }

    public static void main(String[] args) {
        terms();
        newObject();
        choose();
        countAndNumber();
        item();
        go();
        steps();
        beginnings();
        difference();
        mirrored();
        wholeClass();
        System.out.println(sentences + " sentences, " + wrong + " answers not as due");
        if (wrong != 0) {
            System.exit(1);
        }
    }

    private static void terms() {
        check("terms: a size n (1 to 7)", BoundariesTest::leastAndGreatestN);
        check("terms: for the sorts 0 and 4 a second size k (0 to n)", BoundariesTest::leastAndGreatestK);
        check("terms: choices, k different numbers from 0 to n - 1, ascending", BoundariesTest::edgesOfChoices);
        check("terms: orders, the numbers from 0 to n - 1, each once", BoundariesTest::edgesOfOrders);
        check("terms: groupings, the first one 0, at most 1 more than before", BoundariesTest::edgesOfGroupings);
        check("terms: nestings, no beginning has more zeros than ones", BoundariesTest::edgesOfNestings);
        check("terms: parts, k numbers from 0 to n that sum to n", BoundariesTest::edgesOfParts);
        check("terms: with k = 0 there is one choice, the empty list", BoundariesTest::oneEmptyChoice);
        check("terms: with k = 0 there are no parts", BoundariesTest::noParts);
        check("terms: there is a current object if the list is not empty", BoundariesTest::currentIfNotEmpty);
    }

    private static void newObject() {
        check("promise 1: sort ORDERS, n = 3, the first object current", BoundariesTest::newIsFirstOfOrders);
    }

    private static void choose() {
        check("promise 2: the first object becomes current", BoundariesTest::firstBecomesCurrent);
        check("promise 2: sort outside 0..4: refused", BoundariesTest::sortOutside);
        check("promise 2: n outside 1..7: refused", BoundariesTest::nOutside);
        check("promise 2: for sorts 0 and 4, k outside 0..n: refused", BoundariesTest::kOutside);
        check("promise 2: several of them outside: refused", BoundariesTest::severalOutside);
        check("promise 2: refused in every sort and size", BoundariesTest::refusedFromEverywhere);
        check("promise 2: else true", BoundariesTest::elseTrue);
        check("promise 2: for other sorts k plays no part", BoundariesTest::kPlaysNoPart);
    }

    private static void countAndNumber() {
        check("promise 3: how many objects, the fewest and the most", BoundariesTest::fewestAndMost);
        check("promise 4: number of the first and of the last object", BoundariesTest::numberAtTheEnds);
        check("promise 4: NONE if the list is empty", BoundariesTest::numberOfNone);
    }

    private static void item() {
        check("promise 5: number i from 0, to the last of the list", BoundariesTest::firstAndLastItem);
        check("promise 5: BAD if there is none, too small", BoundariesTest::itemTooSmall);
        check("promise 5: BAD if there is none, too large", BoundariesTest::itemTooLarge);
        check("promise 5: BAD if there is none, the empty choice", BoundariesTest::itemOfEmptyChoice);
        check("promise 5: BAD if the list of objects is empty", BoundariesTest::itemOfNone);
    }

    private static void go() {
        check("promise 6: 0 and count() - 1 are inside", BoundariesTest::goInside);
        check("promise 6: number below 0: BAD", BoundariesTest::goBelow);
        check("promise 6: number above count() - 1: BAD", BoundariesTest::goAbove);
        check("promise 6: every number is outside an empty list", BoundariesTest::goNowhere);
    }

    private static void steps() {
        check("promise 7: makes the next object current, up to the last", BoundariesTest::nextUpToLast);
        check("promise 7: NONE, and nothing changes, if the last", BoundariesTest::nextAtLast);
        check("promise 7: NONE, and nothing changes, if empty", BoundariesTest::nextOfNone);
        check("promise 8: makes the object before current, down to the first", BoundariesTest::previousDownToFirst);
        check("promise 8: NONE, and nothing changes, if the first", BoundariesTest::previousAtFirst);
        check("promise 8: NONE, and nothing changes, if empty", BoundariesTest::previousOfNone);
    }

    private static void beginnings() {
        check("promise 9: up to and including number 0", BoundariesTest::firstLikeShortest);
        check("promise 9: up to and including the last number", BoundariesTest::firstLikeLongest);
        check("promise 9: BAD if there is no number i", BoundariesTest::firstLikeOutside);
        check("promise 9: BAD if the list of objects is empty", BoundariesTest::firstLikeOfNone);
        check("promise 10: how many have a beginning of one number", BoundariesTest::likeShortest);
        check("promise 10: how many have the whole list", BoundariesTest::likeLongest);
        check("promise 10: BAD as for firstLike, if there is no number i", BoundariesTest::likeOutside);
        check("promise 10: BAD as for firstLike, if empty", BoundariesTest::likeOfNone);
    }

    private static void difference() {
        check("promise 11: no place differs from itself", BoundariesTest::differenceFromItself);
        check("promise 11: 0 and count() - 1 are inside", BoundariesTest::differenceInside);
        check("promise 11: BAD if number is below 0", BoundariesTest::differenceBelow);
        check("promise 11: BAD if number is above count() - 1", BoundariesTest::differenceAbove);
        check("promise 11: every number is outside an empty list", BoundariesTest::differenceOfNone);
    }

    private static void mirrored() {
        check("promise 12: sort 0, the first and the last", BoundariesTest::mirroredChoices);
        check("promise 12: sort 1, the first and the last", BoundariesTest::mirroredOrders);
        check("promise 12: sort 3, the first and the last", BoundariesTest::mirroredNestings);
        check("promise 12: sort 4, the first and the last", BoundariesTest::mirroredParts);
        check("promise 12: NONE for sort 2", BoundariesTest::mirroredGroupings);
        check("promise 12: NONE for an empty list of objects", BoundariesTest::mirroredOfNone);
    }

    private static void wholeClass() {
        check("what it is: an object is used for at most 512 calls", BoundariesTest::call512);
        check("what it is: later calls are free, but come back (rule 7)", BoundariesTest::laterCalls);
        check("empty list: every method, and the way out of it", BoundariesTest::emptyAndOut);
        check("promise 1: a new object leaves the older ones as they are", BoundariesTest::sideBySide);
        check("rule 7: no call throws, for any arguments in any state", BoundariesTest::nothingThrows);
    }

    private static void check(String text, Check part) {
        sentence = text;
        sentences++;
        try {
            part.run();
        } catch (RuntimeException | Error thrown) {
            wrong++;
            System.out.println(sentence + ": thrown " + thrown);
        }
    }

    private static void due(String what, Object got, Object want) {
        if (!got.equals(want)) {
            wrong++;
            System.out.println(sentence + ": " + what + " answered " + got + ", due is " + want);
        }
    }

    private static void dueList(String what, RankedObjects x, int... want) {
        for (int i = 0; i < want.length; i++) {
            due(what + ": item(" + i + ")", x.item(i), want[i]);
        }
        due(what + ": item past the end", x.item(want.length), BAD);
    }

    private static List<Sizes> allSizes() {
        List<Sizes> all = new ArrayList<>();
        for (int sort = 0; sort <= 4; sort++) {
            for (int n = 1; n <= 7; n++) {
                boolean hasK = sort == 0 || sort == 4;
                for (int k = 0; k <= (hasK ? n : 0); k++) {
                    all.add(new Sizes(sort, n, k));
                }
            }
        }
        return all;
    }

    private static List<Sizes> notEmpty() {
        return ALL.stream().filter(s -> !s.isEmpty()).toList();
    }

    private static List<Sizes> empty() {
        return ALL.stream().filter(Sizes::isEmpty).toList();
    }

    private static List<Sizes> ofSort(int sort) {
        return ALL.stream().filter(s -> s.sort() == sort && !s.isEmpty()).toList();
    }

    private static int[] with(int[] some, int... more) {
        int[] all = new int[some.length + more.length];
        System.arraycopy(some, 0, all, 0, some.length);
        System.arraycopy(more, 0, all, some.length, more.length);
        return all;
    }

    /** Some hundred calls: what an object answers, and how it then goes on; it is of no use afterwards. */
    private static String answers(RankedObjects x) {
        StringBuilder text = new StringBuilder();
        text.append(x.count()).append(' ').append(x.number()).append(' ').append(x.mirrored());
        for (int i = -1; i <= 14; i++) {
            text.append(' ').append(x.item(i)).append(' ').append(x.firstLike(i)).append(' ').append(x.like(i));
        }
        text.append(' ').append(x.difference(0)).append(' ').append(x.difference(x.count() - 1));
        text.append(' ').append(x.previous()).append(' ').append(x.previous());
        for (int step = 0; step < 3; step++) {
            text.append(' ').append(x.next()).append(' ').append(x.item(0)).append(' ').append(x.item(1));
        }
        return text.toString();
    }

    /** Places of the list where a refused call might do harm: the first, the last and one between. */
    private static int[] someNumbers(Sizes s) {
        int count = s.made().count();
        return count == 0 ? new int[] {} : new int[] {0, count / 2, count - 1};
    }

    private static int[] ascending(int from, int size) {
        int[] list = new int[size];
        for (int i = 0; i < size; i++) {
            list[i] = from + i;
        }
        return list;
    }

    private static void leastAndGreatestN() {
        int[] countsOfSeven = {7, 5040, 877, 429, 1};
        for (int sort = 0; sort <= 4; sort++) {
            due("n 1, sort " + sort, new Sizes(sort, 1, 1).made().count(), 1);
            due("n 7, sort " + sort, new Sizes(sort, 7, 1).made().count(), countsOfSeven[sort]);
        }
    }

    private static void leastAndGreatestK() {
        int[] shares = {1, 3, 10, 35, 126, 462, 1716};
        for (int n = 1; n <= 7; n++) {
            due("choices, k 0", new Sizes(0, n, 0).made().count(), 1);
            due("choices, k n", new Sizes(0, n, n).made().count(), 1);
            due("parts, k 0", new Sizes(4, n, 0).made().count(), 0);
            due("parts, k n", new Sizes(4, n, n).made().count(), shares[n - 1]);
        }
    }

    private static void edgesOfChoices() {
        for (Sizes s : ofSort(0)) {
            dueList(s + ", first", s.made(), ascending(0, s.k()));
            dueList(s + ", last", s.last(), ascending(s.n() - s.k(), s.k()));
        }
    }

    private static void edgesOfOrders() {
        for (Sizes s : ofSort(1)) {
            int[] descending = new int[s.n()];
            for (int i = 0; i < s.n(); i++) {
                descending[i] = s.n() - 1 - i;
            }
            dueList(s + ", first", s.made(), ascending(0, s.n()));
            dueList(s + ", last", s.last(), descending);
        }
    }

    private static void edgesOfGroupings() {
        for (Sizes s : ofSort(2)) {
            dueList(s + ", first", s.made(), new int[s.n()]);
            dueList(s + ", last", s.last(), ascending(0, s.n()));
        }
    }

    private static void edgesOfNestings() {
        for (Sizes s : ofSort(3)) {
            int[] flat = new int[2 * s.n()];
            int[] deep = new int[2 * s.n()];
            for (int i = 0; i < s.n(); i++) {
                flat[2 * i] = 1;
                deep[i] = 1;
            }
            dueList(s + ", first", s.made(), flat);
            dueList(s + ", last", s.last(), deep);
        }
    }

    private static void edgesOfParts() {
        for (Sizes s : ofSort(4)) {
            int[] first = new int[s.k()];
            int[] last = new int[s.k()];
            first[s.k() - 1] = s.n();
            last[0] = s.n();
            dueList(s + ", first", s.made(), first);
            dueList(s + ", last", s.last(), last);
        }
    }

    private static void oneEmptyChoice() {
        for (int n = 1; n <= 7; n++) {
            Sizes s = new Sizes(0, n, 0);
            due(s + ": count()", s.made().count(), 1);
            due(s + ": number()", s.made().number(), 0);
            due(s + ": item(0)", s.made().item(0), BAD);
            due(s + ": go(0)", s.made().go(0), 0);
            due(s + ": go(1)", s.made().go(1), BAD);
            due(s + ": next()", s.made().next(), NONE);
            due(s + ": previous()", s.made().previous(), NONE);
            due(s + ": firstLike(0)", s.made().firstLike(0), BAD);
            due(s + ": like(0)", s.made().like(0), BAD);
            due(s + ": difference(0)", s.made().difference(0), 0);
            due(s + ": difference(1)", s.made().difference(1), BAD);
            due(s + ": mirrored()", s.made().mirrored(), 0);
        }
    }

    private static void noParts() {
        for (int n = 1; n <= 7; n++) {
            Sizes s = new Sizes(4, n, 0);
            due(s + ": count()", s.made().count(), 0);
            due(s + ": number()", s.made().number(), NONE);
            due(s + ": go(0)", s.made().go(0), BAD);
        }
    }

    private static void currentIfNotEmpty() {
        for (Sizes s : ALL) {
            due(s + ": number()", s.made().number(), s.isEmpty() ? NONE : 0);
        }
    }

    private static void newIsFirstOfOrders() {
        RankedObjects x = new RankedObjects();
        due("answers", answers(x), answers(new Sizes(1, 3, 0).at(0)));
        due("previous()", new RankedObjects().previous(), NONE);
        due("go(5)", new RankedObjects().go(5), 5);
        due("go(6)", new RankedObjects().go(6), BAD);
        dueList("list", new RankedObjects(), 0, 1, 2);
    }

    private static void firstBecomesCurrent() {
        for (Sizes from : ALL) {
            for (Sizes to : ALL) {
                RankedObjects x = from.isEmpty() ? from.made() : from.last();
                due("choose", x.choose(to.sort(), to.n(), to.k()), true);
                due(from + " to " + to + ": answers", answers(x), answers(to.made()));
            }
        }
    }

    /** A refused call has no state change described for it. */
    private static void refused(int sort, int n, int k) {
        for (Sizes s : List.of(new Sizes(0, 5, 3), new Sizes(1, 4, 0), new Sizes(2, 4, 0),
                new Sizes(3, 4, 0), new Sizes(4, 4, 3), new Sizes(0, 3, 0), new Sizes(4, 3, 0))) {
            refusedFrom(s, sort, n, k);
        }
    }

    private static void refusedFrom(Sizes s, int sort, int n, int k) {
        String call = "choose(" + sort + ", " + n + ", " + k + ")";
        if (s.isEmpty()) {
            RankedObjects x = s.made();
            due(s + ": " + call, x.choose(sort, n, k), false);
            due(s + ": answers after " + call, answers(x), answers(s.made()));
        }
        for (int number : someNumbers(s)) {
            RankedObjects x = s.at(number);
            due(s + ": " + call, x.choose(sort, n, k), false);
            due(s + ": answers after " + call, answers(x), answers(s.at(number)));
        }
    }

    private static void refusedFromEverywhere() {
        int[][] calls = {
            {-1, 3, 1}, {5, 3, 1}, {0, 0, 0}, {1, 0, 0}, {2, 8, 0}, {3, 8, 1}, {4, 0, 0}, {4, 8, 8},
            {0, 7, 8}, {0, 3, -1}, {4, 1, 2}, {4, 7, -1},
        };
        for (Sizes s : ALL) {
            for (int[] c : calls) {
                refusedFrom(s, c[0], c[1], c[2]);
            }
        }
    }

    private static void sortOutside() {
        for (int sort : with(with(FAR_BELOW, FAR_ABOVE), 5, 6, 7, 255, 256, 257)) {
            refused(sort, 3, 1);
        }
    }

    private static void nOutside() {
        for (int n : with(with(FAR_BELOW, FAR_ABOVE), 0, 8, 9, 255, 256, 257)) {
            for (int sort = 0; sort <= 4; sort++) {
                refused(sort, n, 0);
                refused(sort, n, 1);
            }
        }
    }

    private static void kOutside() {
        for (int sort : new int[] {0, 4}) {
            for (int n = 1; n <= 7; n++) {
                for (int k : with(with(FAR_BELOW, FAR_ABOVE), n + 1, n + 2, 8, 255, 256, 257)) {
                    refused(sort, n, k);
                }
            }
        }
    }

    private static void severalOutside() {
        int[] ends = {Integer.MIN_VALUE, -1, 8, Integer.MAX_VALUE};
        for (int outside : ends) {
            refused(0, outside, outside);
            refused(4, outside, outside);
            refused(outside, outside, 1);
            refused(outside, 3, outside);
            refused(outside, outside, outside);
        }
        refused(0, 0, 1);
        refused(4, 8, 9);
        refused(5, 8, 8);
        refused(-1, 0, -1);
    }

    private static void elseTrue() {
        for (Sizes s : ALL) {
            due(s + ": choose", new RankedObjects().choose(s.sort(), s.n(), s.k()), true);
        }
    }

    private static void kPlaysNoPart() {
        for (int sort = 1; sort <= 3; sort++) {
            for (int n = 1; n <= 7; n++) {
                Sizes plain = new Sizes(sort, n, 0);
                for (int k : with(with(FAR_BELOW, FAR_ABOVE), 1, n, n + 1, 7, 8)) {
                    Sizes s = new Sizes(sort, n, k);
                    due(s + ": answers at the first", answers(s.made()), answers(plain.made()));
                    due(s + ": answers at the last", answers(s.last()), answers(plain.last()));
                }
            }
        }
    }

    private static void fewestAndMost() {
        int[][] counts = {
            {4, 1, 0, 0}, {4, 7, 0, 0}, {4, 1, 1, 1}, {4, 7, 1, 1}, {4, 7, 7, 1716},
            {0, 1, 0, 1}, {0, 7, 0, 1}, {0, 7, 7, 1}, {0, 7, 3, 35}, {0, 7, 4, 35}, {0, 7, 6, 7},
            {1, 1, 0, 1}, {1, 2, 0, 2}, {1, 7, 0, 5040},
            {2, 1, 0, 1}, {2, 2, 0, 2}, {2, 7, 0, 877},
            {3, 1, 0, 1}, {3, 2, 0, 2}, {3, 7, 0, 429},
        };
        for (int[] c : counts) {
            Sizes s = new Sizes(c[0], c[1], c[2]);
            due(s + ": count()", s.made().count(), c[3]);
        }
    }

    private static void numberAtTheEnds() {
        for (Sizes s : notEmpty()) {
            due(s + ": number() at the first", s.made().number(), 0);
            due(s + ": number() at the last", s.last().number(), s.made().count() - 1);
        }
    }

    private static void numberOfNone() {
        for (Sizes s : empty()) {
            due(s + ": number()", s.made().number(), NONE);
            RankedObjects x = new Sizes(1, 7, 0).last();
            x.choose(s.sort(), s.n(), s.k());
            due(s + ": number() after the last of a long list", x.number(), NONE);
        }
    }

    private static void firstAndLastItem() {
        due("order of one: item(0)", new Sizes(1, 1, 0).made().item(0), 0);
        due("last order: item(0)", new Sizes(1, 7, 0).last().item(0), 6);
        due("last order: item(6)", new Sizes(1, 7, 0).last().item(6), 0);
        due("last grouping: item(6)", new Sizes(2, 7, 0).last().item(6), 6);
        due("first nesting: item(12)", new Sizes(3, 7, 0).made().item(12), 1);
        due("first nesting: item(13)", new Sizes(3, 7, 0).made().item(13), 0);
        due("full choice: item(6)", new Sizes(0, 7, 7).made().item(6), 6);
        due("first part: item(6)", new Sizes(4, 7, 7).made().item(6), 7);
        due("last part: item(6)", new Sizes(4, 7, 7).last().item(6), 0);
    }

    private static void itemTooSmall() {
        for (Sizes s : notEmpty()) {
            for (int i : FAR_BELOW) {
                due(s + ": item(" + i + ")", s.last().item(i), BAD);
            }
        }
    }

    private static void itemTooLarge() {
        for (Sizes s : notEmpty()) {
            for (int i : with(FAR_ABOVE, s.length(), s.length() + 1, 14, 15)) {
                due(s + ": item(" + i + ")", s.last().item(i), BAD);
                RankedObjects x = new Sizes(3, 7, 0).last();
                x.choose(s.sort(), s.n(), s.k());
                due(s + ": item(" + i + ") after the longest list", x.item(i), BAD);
            }
        }
    }

    private static void itemOfEmptyChoice() {
        for (int n = 1; n <= 7; n++) {
            for (int i : with(with(FAR_BELOW, FAR_ABOVE), 0, 1, n - 1, n)) {
                due("n " + n + ": item(" + i + ")", new Sizes(0, n, 0).made().item(i), BAD);
            }
        }
    }

    private static void itemOfNone() {
        for (Sizes s : empty()) {
            for (int i : with(with(FAR_BELOW, FAR_ABOVE), 0, 1, s.n() - 1, s.n(), 13, 14)) {
                due(s + ": item(" + i + ")", s.made().item(i), BAD);
            }
        }
    }

    private static void goInside() {
        for (Sizes s : notEmpty()) {
            int last = s.made().count() - 1;
            due(s + ": go(0)", s.last().go(0), 0);
            due(s + ": go to the last", s.made().go(last), last);
            RankedObjects x = s.last();
            x.go(0);
            due(s + ": answers after go(0)", answers(x), answers(s.made()));
        }
    }

    private static void goRefused(Sizes s, int outside) {
        for (int number : someNumbers(s)) {
            RankedObjects x = s.at(number);
            due(s + ": go(" + outside + ")", x.go(outside), BAD);
            due(s + ": answers after go(" + outside + ")", answers(x), answers(s.at(number)));
        }
    }

    private static void goBelow() {
        for (Sizes s : notEmpty()) {
            for (int outside : with(FAR_BELOW, -s.made().count())) {
                goRefused(s, outside);
            }
        }
    }

    private static void goAbove() {
        for (Sizes s : notEmpty()) {
            int count = s.made().count();
            for (int outside : with(FAR_ABOVE, count, count + 1, 2 * count)) {
                goRefused(s, outside);
            }
        }
    }

    private static void goNowhere() {
        for (Sizes s : empty()) {
            for (int outside : with(with(FAR_BELOW, FAR_ABOVE), 0, 1)) {
                RankedObjects x = s.made();
                due(s + ": go(" + outside + ")", x.go(outside), BAD);
                due(s + ": answers after go(" + outside + ")", answers(x), answers(s.made()));
            }
        }
    }

    private static void nextUpToLast() {
        for (Sizes s : notEmpty()) {
            int last = s.made().count() - 1;
            if (last > 0) {
                RankedObjects x = s.at(last - 1);
                due(s + ": next()", x.next(), last);
                due(s + ": answers after next()", answers(x), answers(s.last()));
            }
        }
    }

    private static void nextAtLast() {
        for (Sizes s : notEmpty()) {
            RankedObjects x = s.last();
            due(s + ": next()", x.next(), NONE);
            due(s + ": next() again", x.next(), NONE);
            due(s + ": answers after next()", answers(x), answers(s.last()));
        }
    }

    private static void nextOfNone() {
        for (Sizes s : empty()) {
            RankedObjects x = s.made();
            due(s + ": next()", x.next(), NONE);
            due(s + ": next() again", x.next(), NONE);
            due(s + ": answers after next()", answers(x), answers(s.made()));
        }
    }

    private static void previousDownToFirst() {
        for (Sizes s : notEmpty()) {
            if (s.made().count() > 1) {
                RankedObjects x = s.at(1);
                due(s + ": previous()", x.previous(), 0);
                due(s + ": answers after previous()", answers(x), answers(s.made()));
            }
        }
    }

    private static void previousAtFirst() {
        for (Sizes s : notEmpty()) {
            RankedObjects x = s.made();
            due(s + ": previous()", x.previous(), NONE);
            due(s + ": previous() again", x.previous(), NONE);
            due(s + ": answers after previous()", answers(x), answers(s.made()));
        }
    }

    private static void previousOfNone() {
        for (Sizes s : empty()) {
            RankedObjects x = s.made();
            due(s + ": previous()", x.previous(), NONE);
            due(s + ": previous() again", x.previous(), NONE);
            due(s + ": answers after previous()", answers(x), answers(s.made()));
        }
    }

    private static void firstLikeShortest() {
        due("last choice", new Sizes(0, 7, 3).last().firstLike(0), 34);
        due("last order", new Sizes(1, 7, 0).last().firstLike(0), 4320);
        due("last grouping", new Sizes(2, 7, 0).last().firstLike(0), 0);
        due("last nesting", new Sizes(3, 7, 0).last().firstLike(0), 0);
        due("last part", new Sizes(4, 7, 7).last().firstLike(0), 1715);
        for (Sizes s : notEmpty()) {
            if (s.length() > 0) {
                due(s + ": the first object", s.made().firstLike(0), 0);
            }
        }
    }

    private static void firstLikeLongest() {
        for (Sizes s : notEmpty()) {
            if (s.length() > 0) {
                for (int number : someNumbers(s)) {
                    due(s + ": own number", s.at(number).firstLike(s.length() - 1), number);
                }
            }
        }
    }

    private static void firstLikeOutside() {
        for (Sizes s : notEmpty()) {
            for (int i : with(with(FAR_BELOW, FAR_ABOVE), s.length(), s.length() + 1, 14, 15)) {
                due(s + ": firstLike(" + i + ")", s.last().firstLike(i), BAD);
            }
        }
    }

    private static void firstLikeOfNone() {
        for (Sizes s : empty()) {
            for (int i : with(with(FAR_BELOW, FAR_ABOVE), 0, 1, s.n() - 1, s.n(), 13, 14)) {
                due(s + ": firstLike(" + i + ")", s.made().firstLike(i), BAD);
            }
        }
    }

    private static void likeShortest() {
        due("first choice", new Sizes(0, 7, 3).made().like(0), 15);
        due("last choice", new Sizes(0, 7, 3).last().like(0), 1);
        due("last order", new Sizes(1, 7, 0).last().like(0), 720);
        due("all groupings", new Sizes(2, 7, 0).last().like(0), 877);
        due("all nestings", new Sizes(3, 7, 0).last().like(0), 429);
        due("first part", new Sizes(4, 7, 7).made().like(0), 792);
        due("last part", new Sizes(4, 7, 7).last().like(0), 1);
    }

    private static void likeLongest() {
        for (Sizes s : notEmpty()) {
            if (s.length() > 0) {
                for (int number : someNumbers(s)) {
                    due(s + ": only itself", s.at(number).like(s.length() - 1), 1);
                }
            }
        }
    }

    private static void likeOutside() {
        for (Sizes s : notEmpty()) {
            for (int i : with(with(FAR_BELOW, FAR_ABOVE), s.length(), s.length() + 1, 14, 15)) {
                due(s + ": like(" + i + ")", s.last().like(i), BAD);
            }
        }
    }

    private static void likeOfNone() {
        for (Sizes s : empty()) {
            for (int i : with(with(FAR_BELOW, FAR_ABOVE), 0, 1, s.n() - 1, s.n(), 13, 14)) {
                due(s + ": like(" + i + ")", s.made().like(i), BAD);
            }
        }
    }

    private static void differenceFromItself() {
        for (Sizes s : notEmpty()) {
            for (int number : someNumbers(s)) {
                due(s + ": difference(" + number + ")", s.at(number).difference(number), 0);
            }
        }
    }

    private static void differenceInside() {
        int[][] firstToLast = {
            {0, 7, 3, 3}, {0, 7, 7, 0}, {0, 7, 6, 6}, {1, 7, 0, 6}, {1, 6, 0, 6}, {1, 1, 0, 0},
            {2, 7, 0, 6}, {2, 1, 0, 0}, {3, 7, 0, 6}, {3, 1, 0, 0}, {4, 7, 7, 2}, {4, 7, 1, 0},
        };
        for (int[] d : firstToLast) {
            Sizes s = new Sizes(d[0], d[1], d[2]);
            due(s + ": first to last", s.made().difference(s.made().count() - 1), d[3]);
            due(s + ": last to first", s.last().difference(0), d[3]);
        }
    }

    private static void differenceRefused(Sizes s, int outside) {
        RankedObjects x = s.last();
        due(s + ": difference(" + outside + ")", x.difference(outside), BAD);
        due(s + ": answers after difference(" + outside + ")", answers(x), answers(s.last()));
    }

    private static void differenceBelow() {
        for (Sizes s : notEmpty()) {
            for (int outside : with(FAR_BELOW, -s.made().count())) {
                differenceRefused(s, outside);
            }
        }
    }

    private static void differenceAbove() {
        for (Sizes s : notEmpty()) {
            int count = s.made().count();
            for (int outside : with(FAR_ABOVE, count, count + 1, 2 * count)) {
                differenceRefused(s, outside);
            }
        }
    }

    private static void differenceOfNone() {
        for (Sizes s : empty()) {
            for (int outside : with(with(FAR_BELOW, FAR_ABOVE), 0, 1)) {
                due(s + ": difference(" + outside + ")", s.made().difference(outside), BAD);
            }
        }
    }

    /** For the sorts 0, 1 and 4 the first and the last object are each other's mirror images. */
    private static void mirroredEnds(int sort) {
        for (Sizes s : ofSort(sort)) {
            int last = s.made().count() - 1;
            due(s + ": mirrored() of the first", s.made().mirrored(), last);
            due(s + ": mirrored() of the last", s.last().mirrored(), 0);
        }
    }

    private static void mirroredChoices() {
        mirroredEnds(0);
    }

    private static void mirroredOrders() {
        mirroredEnds(1);
    }

    /** The flattest and the deepest nesting are mirror images of themselves. */
    private static void mirroredNestings() {
        for (Sizes s : ofSort(3)) {
            due(s + ": mirrored() of the first", s.made().mirrored(), 0);
            due(s + ": mirrored() of the last", s.last().mirrored(), s.made().count() - 1);
        }
    }

    private static void mirroredParts() {
        mirroredEnds(4);
    }

    private static void mirroredGroupings() {
        for (Sizes s : ofSort(2)) {
            for (int number : someNumbers(s)) {
                RankedObjects x = s.at(number);
                due(s + ": mirrored() of " + number, x.mirrored(), NONE);
                due(s + ": answers after mirrored()", answers(x), answers(s.at(number)));
            }
        }
    }

    private static void mirroredOfNone() {
        for (Sizes s : empty()) {
            due(s + ": mirrored()", s.made().mirrored(), NONE);
        }
    }

    private static void call512() {
        RankedObjects x = new RankedObjects();
        due("call 1", x.choose(3, 7, 0), true);
        due("call 2", x.go(428), 428);
        for (int call = 3; call < 512; call++) {
            due("call " + call, x.next(), NONE);
        }
        due("call 512", x.previous(), 427);
    }

    /** What they answer is not looked at. */
    private static void laterCalls() {
        for (Sizes s : ALL) {
            RankedObjects x = s.made();
            for (int call = 0; call < 2000; call++) {
                x.next();
                x.difference(call);
                x.mirrored();
                x.firstLike(call % 16);
                x.like(call % 16);
                x.item(call % 16);
            }
            for (int call = 0; call < 2000; call++) {
                x.previous();
                x.go(call);
                x.choose(call % 6, call % 9, call % 8);
            }
        }
    }

    private static void sideBySide() {
        for (Sizes s : notEmpty()) {
            for (Sizes t : List.of(new Sizes(1, 7, 0), new Sizes(3, 7, 0), new Sizes(4, 2, 0))) {
                RankedObjects x = s.last();
                RankedObjects y = t.made();
                y.next();
                due(s + ": answers beside " + t, answers(x), answers(s.last()));
                due(t + ": number() beside " + s, y.number(), t.isEmpty() ? NONE : 1);
            }
        }
    }

    private static void emptyAndOut() {
        for (Sizes none : empty()) {
            for (Sizes s : notEmpty()) {
                RankedObjects x = s.last();
                due(s + ": into the empty list", x.choose(none.sort(), none.n(), none.k()), true);
                askNone(s + " to " + none, x);
                due(s + ": out of it", x.choose(s.sort(), s.n(), s.k()), true);
                due(s + ": answers after " + none, answers(x), answers(s.made()));
            }
        }
    }

    private static void askNone(String what, RankedObjects x) {
        for (int number : new int[] {Integer.MIN_VALUE, -1, 0, 1, 6, Integer.MAX_VALUE}) {
            due(what + ": count()", x.count(), 0);
            due(what + ": number()", x.number(), NONE);
            due(what + ": item(" + number + ")", x.item(number), BAD);
            due(what + ": go(" + number + ")", x.go(number), BAD);
            due(what + ": next()", x.next(), NONE);
            due(what + ": previous()", x.previous(), NONE);
            due(what + ": firstLike(" + number + ")", x.firstLike(number), BAD);
            due(what + ": like(" + number + ")", x.like(number), BAD);
            due(what + ": difference(" + number + ")", x.difference(number), BAD);
            due(what + ": mirrored()", x.mirrored(), NONE);
            due(what + ": choose(5, 1, " + number + ")", x.choose(5, 1, number), false);
        }
    }

    /** Only that each call comes back: what it answers is looked at above. */
    private static void nothingThrows() {
        for (Sizes s : ALL) {
            for (int number : with(with(FAR_BELOW, FAR_ABOVE), 0, 1, 7, 8, 14)) {
                RankedObjects x = s.isEmpty() ? s.made() : s.last();
                x.item(number);
                x.firstLike(number);
                x.like(number);
                x.difference(number);
                x.go(number);
                x.next();
                x.previous();
                x.mirrored();
                x.choose(number, s.n(), s.k());
                x.choose(s.sort(), number, s.k());
                x.choose(s.sort(), s.n(), number);
                x.choose(number, number, number);
                x.item(number);
            }
        }
    }
}
