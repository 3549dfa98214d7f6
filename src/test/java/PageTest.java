import java.util.NoSuchElementException;

/** Promises 17 to 23: what the pages tell of themselves. */
public final class PageTest {
    public static void main(String[] args) {
        oneLeaf();
        frontCodedLeaf();
        threeLevels();
        missingPages();
        separator();
        statistic();
        occupancyBits();
        Due.end("PageTest");
    }

    /** 50 ascending keys of a byte, where a leaf holds 7 and an inner page 7 children. */
    static FrontCodedIndex fifty() {
        FrontCodedIndex x = new FrontCodedIndex();
        x.setCapacity(64);
        for (int i = 0; i < 50; i++) {
            x.setKey(i, 1);
            x.put(i);
        }
        return x;
    }

    private static void oneLeaf() {
        FrontCodedIndex x = new FrontCodedIndex();
        Due.is("17 one leaf", x.height(), 1);
        Due.is("18 one leaf", x.pageCount(0), 1);
        Due.is("19 empty leaf", x.pageSize(0, 0), 8);
        Due.is("20 empty leaf", x.pageFanout(0, 0), 0);
        x.put(1);
        Due.is("19 empty key", x.pageSize(0, 0), 15);
        Due.is("20 one entry", x.pageFanout(0, 0), 1);
    }

    private static void frontCodedLeaf() {
        FrontCodedIndex x = new FrontCodedIndex();
        Keys.put(x, "abcd", 1);
        Due.is("19 first entry is whole", x.pageSize(0, 0), 8 + 11);
        Keys.put(x, "abce", 2);
        Due.is("19 three bytes shared", x.pageSize(0, 0), 8 + 11 + 8);
        Keys.put(x, "ab", 3);
        Due.is("19 a prefix before", x.pageSize(0, 0), 8 + 9 + 9 + 8);
        Keys.put(x, "b", 4);
        Due.is("19 nothing shared", x.pageSize(0, 0), 8 + 9 + 9 + 8 + 8);
        Keys.remove(x, "abcd");
        Due.is("19 after a removal", x.pageSize(0, 0), 8 + 9 + 9 + 8);
    }

    private static void threeLevels() {
        FrontCodedIndex x = fifty();
        Due.is("17 three levels", x.height(), 3);
        Due.is("18 root", x.pageCount(0), 1);
        Due.is("18 inner pages", x.pageCount(1), 2);
        Due.is("18 leaves", x.pageCount(2), 8);
        Due.is("19, 20 root", Keys.level(x, 0), "20/2");
        Due.is("19, 20 inner pages", Keys.level(x, 1), "36/4 36/4");
        Due.is("19, 20 leaves", Keys.level(x, 2), "64/7 64/7 64/7 64/7 64/7 64/7 40/4 40/4");
    }

    private static void missingPages() {
        FrontCodedIndex x = fifty();
        int[][] missing = {{-1, 0}, {3, 0}, {0, 1}, {0, -1}, {1, 2}, {2, 8}, {2, -1},
            {Integer.MIN_VALUE, 0}, {Integer.MAX_VALUE, 0}, {2, Integer.MAX_VALUE}};
        for (int[] page : missing) {
            int level = page[0];
            int i = page[1];
            Class<? extends RuntimeException> kind = IndexOutOfBoundsException.class;
            Due.thrown("19 missing", kind, () -> x.pageSize(level, i));
            Due.thrown("20 missing", kind, () -> x.pageFanout(level, i));
            Due.thrown("21 missing", kind, () -> x.separator(level, i, 0));
            Due.thrown("21 missing, and no separator", kind, () -> x.separator(level, i, -1));
            if (level < 0 || level > 2) {
                Due.thrown("18 missing", kind, () -> x.pageCount(level));
            }
        }
    }

    private static void separator() {
        FrontCodedIndex x = fifty();
        Due.is("21 of the root", x.separator(0, 0, 0), 1);
        Due.is("21 key", x.keyByte(0), 28);
        Due.is("21 first", x.separator(1, 1, 0), 1);
        Due.is("21 key", x.keyByte(0), 35);
        Due.is("21 last", x.separator(1, 1, 2), 1);
        Due.is("21 key", x.keyByte(0), 46);
        Class<? extends RuntimeException> kind = NoSuchElementException.class;
        Due.thrown("21 behind", kind, () -> x.separator(1, 1, 3));
        Due.thrown("21 negative", kind, () -> x.separator(1, 1, -1));
        Due.thrown("21 root has one", kind, () -> x.separator(0, 0, 1));
        Due.thrown("21 leaf", kind, () -> x.separator(2, 0, 0));
        Due.is("21 key is left", x.keyByte(0), 46);
    }

    private static void statistic() {
        FrontCodedIndex x = fifty();
        Due.is("22 sizes", x.statistic(0), 20 + 36 + 36 + 6 * 64 + 40 + 40);
        Due.is("22 pages", x.statistic(1), 11);
        Due.is("22 splits", x.statistic(2), 8);
        Due.is("22 redistributions", x.statistic(3), 18);
        Due.is("22 merges", x.statistic(4), 0);
        Due.thrown("22 below", IllegalArgumentException.class, () -> x.statistic(-1));
        Due.thrown("22 above", IllegalArgumentException.class, () -> x.statistic(5));
        x.setKey(0, 0);
        x.swapBound();
        x.setKey(7, 1);
        x.removeRange();
        Due.is("22 merges of a leaf and of an inner page", x.statistic(4), 2);
        x.saveSnapshot();
        x.restoreSnapshot();
        x.load(50);
        x.setCapacity(80);
        Due.is("22 splits go on", x.statistic(2), 8);
        Due.is("22 redistributions go on", x.statistic(3), 18);
        Due.is("22 merges go on", x.statistic(4), 2);
    }

    private static void occupancyBits() {
        FrontCodedIndex x = new FrontCodedIndex();
        for (int capacity = 64; capacity <= 200; capacity++) {
            x.setCapacity(capacity);
            double percent = 8.0 * 100.0 / 1.0 / (double) capacity;
            Due.is("23 empty", x.occupancyBits(), Double.doubleToLongBits(percent));
        }
        FrontCodedIndex y = new FrontCodedIndex();
        y.setCapacity(67);
        for (int i = 0; i < 100; i++) {
            y.setKey(i * 37 % 128, 1);
            y.put(i);
            double sum = 0.0;
            int leaves = y.pageCount(y.height() - 1);
            // All pages less those above the leaves, to stay within the calls of an object.
            if (y.height() == 1) {
                sum = y.statistic(0);
            } else if (y.height() == 2) {
                sum = y.statistic(0) - y.pageSize(0, 0);
            } else {
                continue;
            }
            double percent = sum * 100.0 / (double) leaves / 67.0;
            Due.is("23 sum of leaves", y.occupancyBits(), Double.doubleToLongBits(percent));
        }
        FrontCodedIndex z = fifty();
        double percent = 464.0 * 100.0 / 8.0 / 64.0;
        Due.is("23 inner pages don't count", z.occupancyBits(), Double.doubleToLongBits(percent));
    }
}
