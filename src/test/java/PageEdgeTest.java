import java.util.NoSuchElementException;

/** The boundary cases of promises 17 to 23 and of "Sizes": what the pages tell of themselves. */
public final class PageEdgeTest {
    public static void main(String[] args) {
        heightOfOneLeaf();
        heightGrowsAndShrinks();
        firstAndLastLevel();
        sizeOfEmptyLeaf();
        sizeWithEmptyKey();
        firstEntryOfALeafSharesNothing();
        firstEntryAfterOthersGo();
        longestShared();
        prefixIsShared();
        firstSeparatorSharesNothing();
        separatorsShareWithTheOneBefore();
        innerPageOfOneChild();
        fanoutOfEmptyLeaf();
        separatorFirstAndLast();
        separatorOfOneChild();
        separatorOfTwelveBytes();
        statisticFirstAndLast();
        countsGoOn();
        occupancyOfEmptyLeaf();
        occupancyOfFullLeaf();
        occupancyOfLeavesAlone();
        occupancyIsRoundedInOrder();
        Due.end("PageEdgeTest");
    }

    /** "Returns the number of levels; 1 if the root is a leaf." */
    private static void heightOfOneLeaf() {
        FrontCodedIndex x = new FrontCodedIndex();
        Due.is("17 empty", x.height(), 1);
        Keys.putAll(x, Keys.signs('a', 11));
        Due.is("17 full", x.height(), 1);
    }

    /** "When the root is split, a new root is made"; "this child becomes the root". */
    private static void heightGrowsAndShrinks() {
        FrontCodedIndex x = new FrontCodedIndex();
        Keys.putAll(x, Keys.signs('a', 12));
        Due.is("17 the root was split", x.height(), 2);
        Keys.remove(x, "a");
        Due.is("17 still two leaves", x.height(), 2);
        Keys.remove(x, "b");
        Due.is("18 merged", Keys.tree(x), "88/10");
        Due.is("17 one child was left", x.height(), 1);
    }

    /** "the level; 0 is that of the root", the last that of the leaves. */
    private static void firstAndLastLevel() {
        FrontCodedIndex x = Keys.loaded(64, 40, Keys.signs('a', 26));
        Due.is("32 five levels", x.height(), 5);
        int[] pages = {1, 2, 4, 7, 13};
        for (int level = 0; level < 5; level++) {
            Due.is("18 level " + level, x.pageCount(level), pages[level]);
        }
    }

    /** "The size of a leaf is 8, plus for each entry": 8 without one. */
    private static void sizeOfEmptyLeaf() {
        FrontCodedIndex x = new FrontCodedIndex();
        Due.is("19 empty", x.pageSize(0, 0), 8);
        x.put(1);
        x.remove();
        Due.is("19 empty again", x.pageSize(0, 0), 8);
    }

    /** "7 plus the length of its key": 7 for the empty key. */
    private static void sizeWithEmptyKey() {
        FrontCodedIndex x = new FrontCodedIndex();
        x.put(1);
        Due.is("19 empty key", x.pageSize(0, 0), 15);
        Keys.put(x, "ab", 1);
        Due.is("19 nothing is shared with it", x.pageSize(0, 0), 15 + 9);
    }

    /**
     * "the shared length of its key and the key of the entry before it in this leaf (0 for the first
     * entry)".
     */
    private static void firstEntryOfALeafSharesNothing() {
        // The limit is 44, so that "abcdeh" begins the second leaf: 13 bytes there, not 8.
        FrontCodedIndex x = Keys.loaded(64, 70, "a abcde abcdef abcdeg abcdeh abcdei");
        Due.is("19 whole in the second leaf", Keys.tree(x), "25/2 | 43/4 29/2");
    }

    /** The entry that becomes the first of its leaf shares nothing any more. */
    private static void firstEntryAfterOthersGo() {
        FrontCodedIndex x = new FrontCodedIndex();
        Keys.putAll(x, "abcd abce abcf");
        Due.is("19 three", x.pageSize(0, 0), 8 + 11 + 8 + 8);
        Keys.remove(x, "abcd");
        Due.is("19 the second is whole", x.pageSize(0, 0), 8 + 11 + 8);
        Keys.remove(x, "abcf");
        Due.is("19 alone", x.pageSize(0, 0), 8 + 11);
    }

    /** "the shared length is the number of leading bytes in which they agree": 11 of 12. */
    private static void longestShared() {
        FrontCodedIndex x = new FrontCodedIndex();
        Keys.putAll(x, "abcdefghijkl abcdefghijkm");
        Due.is("19 one byte of the second", x.pageSize(0, 0), 8 + 19 + 8);
        Keys.put(x, "abcdefghijk", 1);
        Due.is("19 the prefix before both", x.pageSize(0, 0), 8 + 18 + 8 + 8);
    }

    /** "the number of leading bytes": bytes that agree behind a difference don't count. */
    private static void prefixIsShared() {
        FrontCodedIndex x = new FrontCodedIndex();
        Keys.putAll(x, "axcd bxcd");
        Due.is("19 nothing shared", x.pageSize(0, 0), 8 + 11 + 11);
        Keys.put(x, "b", 1);
        Due.is("19 a whole key shared", x.pageSize(0, 0), 8 + 11 + 8 + 10);
    }

    /** "the separator before it in this page (0 for the first separator)". */
    private static void firstSeparatorSharesNothing() {
        FrontCodedIndex x = Keys.loaded(64, 40, "commonstarta commonstartb commonstartc commonstartd commonstarte");
        // Each page of two children has a separator of twelve bytes, which is its first.
        Due.is("19 whole in each page", Keys.tree(x),
                "31/2 | 31/2 12/1 | 31/2 31/2 12/1 | 27/1 27/1 27/1 27/1 27/1");
    }

    /**
     * "plus for each separator 3 plus its length minus the shared length of it and the separator before
     * it".
     */
    private static void separatorsShareWithTheOneBefore() {
        // Leaves of three entries; the separators are "abd", "abg", "ac".
        FrontCodedIndex x = Keys.loaded(72, 55, "aba abb abc abd abe abf abg abh abi ac");
        Due.is("32 four leaves", Keys.level(x, x.height() - 1), "34/3 34/3 34/3 17/1");
        Due.is("19 6, 4 and 4 bytes", Keys.level(x, 0), "38/4");
        Due.is("21 separators", Keys.separators(x, 0, 0), "abd abg ac");
    }

    /** "8, plus 4 for each child, plus for each separator": an inner page of one child has none. */
    private static void innerPageOfOneChild() {
        FrontCodedIndex x = Keys.loaded(64, 75, Keys.signs('a', 26));
        Due.is("19 8 + 4", Keys.tree(x), "20/2 | 44/5 12/1 | 48/5 48/5 48/5 48/5 48/5 16/1");
    }

    /** "Returns the number of entries of a leaf": 0 of an empty one. */
    private static void fanoutOfEmptyLeaf() {
        FrontCodedIndex x = new FrontCodedIndex();
        Due.is("20 the root", x.pageFanout(0, 0), 0);
        FrontCodedIndex y = Keys.loaded(64, 75, Keys.signs('a', 26));
        Keys.remove(y, "z");
        Due.is("20 a leaf without siblings", y.pageFanout(2, 5), 0);
        Due.is("20 its parent", y.pageFanout(1, 1), 1);
    }

    /** "the number of the separator, from 0": the first and the last. */
    private static void separatorFirstAndLast() {
        FrontCodedIndex x = Keys.loaded(64, 75, Keys.signs('a', 26));
        Due.is("21 first", x.separator(1, 0, 0), 1);
        Due.is("21 key", Keys.get(x), "f");
        Due.is("21 last", x.separator(1, 0, 3), 1);
        Due.is("21 key", Keys.get(x), "u");
        Due.thrown("21 behind", NoSuchElementException.class, () -> x.separator(1, 0, 4));
        Due.is("21 of the root", x.separator(0, 0, 0), 1);
        Due.is("21 key", Keys.get(x), "z");
    }

    /** "Throws NoSuchElementException if the page is a leaf or has no such separator". */
    private static void separatorOfOneChild() {
        FrontCodedIndex x = Keys.loaded(64, 75, Keys.signs('a', 26));
        Due.thrown("21 a single child", NoSuchElementException.class, () -> x.separator(1, 1, 0));
        Due.thrown("21 a leaf of five", NoSuchElementException.class, () -> x.separator(2, 0, 0));
        Due.thrown("21 a leaf of one", NoSuchElementException.class, () -> x.separator(2, 5, 0));
    }

    /** "Returns its length.": 12 at most. */
    private static void separatorOfTwelveBytes() {
        FrontCodedIndex x = Keys.loaded(64, 40, "commonstarta commonstartb");
        Due.is("21 length", x.separator(0, 0, 0), 12);
        Due.is("21 key", Keys.get(x), "commonstartb");
    }

    /** "Throws IllegalArgumentException if what is not valid": 0 and 4 are. */
    private static void statisticFirstAndLast() {
        FrontCodedIndex x = new FrontCodedIndex();
        x.setCapacity(64);
        Keys.putAll(x, Keys.signs('a', 8));
        Keys.remove(x, "a");
        Keys.remove(x, "b");
        Due.is("22 sum of sizes", x.statistic(0), 56);
        Due.is("22 pages", x.statistic(1), 1);
        Due.is("22 splits", x.statistic(2), 1);
        Due.is("22 redistributions", x.statistic(3), 0);
        Due.is("22 merges", x.statistic(4), 1);
    }

    /** "The numbers of splits, redistributions and merges go on, whatever is loaded, restored or set". */
    private static void countsGoOn() {
        FrontCodedIndex x = new FrontCodedIndex();
        x.setCapacity(64);
        x.saveSnapshot();
        Keys.putAll(x, Keys.signs('a', 12));
        Keys.range(x, "", "\177");
        x.removeRange();
        Due.is("22 one each", x.statistic(2) * 100 + x.statistic(3) * 10 + x.statistic(4), 111);
        x.setCapacity(65);
        Due.is("22 set", x.statistic(2) * 100 + x.statistic(3) * 10 + x.statistic(4), 111);
        x.restoreSnapshot();
        Due.is("22 restored", x.statistic(2) * 100 + x.statistic(3) * 10 + x.statistic(4), 111);
        Keys.queueAll(x, Keys.signs('a', 20));
        x.load(40);
        Due.is("22 loaded", x.statistic(2) * 100 + x.statistic(3) * 10 + x.statistic(4), 111);
        Keys.remove(x, "a");
        Due.is("22 one merge or more", x.statistic(4) > 1, true);
    }

    private static long bits(double percent) {
        return Double.doubleToLongBits(percent);
    }

    /** "the average size of all leaves in percent of the capacity": of one empty leaf. */
    private static void occupancyOfEmptyLeaf() {
        FrontCodedIndex x = new FrontCodedIndex();
        Due.is("23 of 96", x.occupancyBits(), bits(8.0 * 100.0 / 1.0 / 96.0));
        x.setCapacity(200);
        Due.is("23 of 200", x.occupancyBits(), bits(4.0));
        x.setCapacity(64);
        Due.is("23 of 64", x.occupancyBits(), bits(12.5));
    }

    /** "the average size of all leaves in percent of the capacity": 100 where all are full. */
    private static void occupancyOfFullLeaf() {
        FrontCodedIndex x = Keys.loaded(64, 100, Keys.signs('a', 7));
        Due.is("23 one full leaf", x.occupancyBits(), bits(100.0));
        FrontCodedIndex y = Keys.loaded(64, 100, Keys.signs('A', 49));
        Due.is("23 seven full leaves", y.occupancyBits(), bits(100.0));
    }

    /** "the average size of all leaves": the 13 inner pages don't count. */
    private static void occupancyOfLeavesAlone() {
        FrontCodedIndex x = Keys.loaded(67, 40, Keys.signs('a', 26));
        Due.is("32 leaves", x.pageCount(x.height() - 1), 13);
        Due.is("23 leaves alone", x.occupancyBits(), bits(312.0 * 100.0 / 13.0 / 67.0));
    }

    /**
     * "the sum of the sizes as a double, times 100.0, divided by the number of leaves as a double,
     * divided by the capacity as a double": another order is rounded to other bits here.
     */
    private static void occupancyIsRoundedInOrder() {
        FrontCodedIndex x = Keys.loaded(65, 100, Keys.signs('a', 17));
        Due.is("32 leaves", Keys.level(x, 1), "64/7 64/7 32/3");
        long due = bits(160.0 * 100.0 / 3.0 / 65.0);
        Due.is("23 another order differs", due == bits(160.0 * 100.0 / 65.0 / 3.0), false);
        Due.is("23 another order differs", due == bits(160.0 / 3.0 / 65.0 * 100.0), false);
        Due.is("23 in this order", x.occupancyBits(), due);
    }
}
