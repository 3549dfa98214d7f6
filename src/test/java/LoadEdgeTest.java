/** The boundary cases of promises 31 to 34 and of "Loading" in the document's description. */
public final class LoadEdgeTest {
    public static void main(String[] args) {
        queueEmptyKeyFirst();
        queueJustGreater();
        queueAfterLoading();
        queueLeavesKey();
        queueThreeHundred();
        loadNothing();
        loadOne();
        leastFill();
        greatestFill();
        limitIsRoundedDown();
        leafUpToTheLimit();
        leafOfOneEntryAboveTheLimit();
        innerPageUpToTheLimit();
        innerPageOfTwoAboveTheLimit();
        innerPageOfOne();
        oneLeafHasNoParent();
        loadThreeHundred();
        loadReplacesAll();
        loadTwice();
        loadCountsNothing();
        saveEmptyTree();
        saveInPlaceOfEarlier();
        saveLeavesAll();
        savedIsApart();
        savedValueAlone();
        savedSeparatorsAlone();
        restoreTwice();
        restoreIntoEmptyTree();
        restoreEmptyTree();
        restoreSmallPages();
        restoreCapacity();
        restoreClosesAll();
        restoreLeavesBuffersAndList();
        Due.end("LoadEdgeTest");
    }

    /** "the key is not greater than the key of its last entry": an empty list has none. */
    private static void queueEmptyKeyFirst() {
        FrontCodedIndex x = new FrontCodedIndex();
        Due.is("31 one", x.queue(1), 1);
        Due.thrown("31 not once more", IllegalStateException.class, () -> x.queue(2));
        x.feed(0);
        Due.is("31 the least greater key", x.queue(3), 2);
        x.load(100);
        Due.is("32 values", x.select(0) * 10 + x.select(1), 13);
    }

    /** "the key is not greater than the key of its last entry": one byte more is greater. */
    private static void queueJustGreater() {
        FrontCodedIndex x = new FrontCodedIndex();
        Due.is("31 first", Keys.queue(x, "abcdefghijk", 1), 1);
        Due.is("31 a byte more", Keys.queue(x, "abcdefghijkl", 2), 2);
        Due.is("31 another last byte", Keys.queue(x, "abcdefghijkm", 3), 3);
        Due.thrown("31 equal", IllegalStateException.class, () -> x.queue(4));
        Keys.set(x, "abcdefghijkl");
        Due.thrown("31 less", IllegalStateException.class, () -> x.queue(4));
        Keys.set(x, "abcdefghijk");
        Due.thrown("31 a prefix", IllegalStateException.class, () -> x.queue(4));
        Due.is("31 a shorter one", Keys.queue(x, "b", 5), 4);
    }

    /** "All cursors are closed and the load list is empty then.": each key can be the first again. */
    private static void queueAfterLoading() {
        FrontCodedIndex x = new FrontCodedIndex();
        Keys.queueAll(x, "x y z");
        x.load(100);
        Due.is("31 a less one", Keys.queue(x, "a", 1), 1);
        Due.is("31 one of the tree", Keys.queue(x, "z", 2), 2);
        Due.is("12 the tree is left", x.size(), 3);
    }

    /** "The methods that say "the key" [...] leave it unchanged", whether they refuse it or not. */
    private static void queueLeavesKey() {
        FrontCodedIndex x = new FrontCodedIndex();
        Keys.queue(x, "abcdefghijkl", 1);
        Due.is("31 key is left", Keys.get(x), "abcdefghijkl");
        Due.thrown("31 refused", IllegalStateException.class, () -> x.queue(2));
        Due.is("31 key is left", Keys.get(x), "abcdefghijkl");
        x.cutKey(1);
        x.feed('c');
        Due.is("31 the queued key is its own", x.queue(3), 2);
        x.load(100);
        Due.is("32 entries", Keys.all(x), "abcdefghijkl ac");
    }

    /** "Throws IllegalStateException if the load list has 300 entries", and no longer when it is loaded. */
    private static void queueThreeHundred() {
        FrontCodedIndex x = new FrontCodedIndex();
        for (int i = 0; i < 300; i++) {
            x.setKey(i / 100 << 8 | i % 100, 2);
            Due.is("31 queued", x.queue(i), i + 1);
        }
        x.setKey(127, 1);
        Due.thrown("31 full", IllegalStateException.class, () -> x.queue(1));
        x.load(100);
        Due.is("12 loaded", x.size(), 300);
        Due.is("31 empty", x.queue(1), 1);
    }

    /** "Loading an empty list makes one empty leaf." */
    private static void loadNothing() {
        FrontCodedIndex x = Keys.loaded(64, 40, Keys.signs('a', 26));
        Due.is("32 one page", x.load(40), 1);
        Due.is("32 an empty leaf", Keys.tree(x), "8/0");
        Due.is("32 no entries", x.size(), 0);
        Due.is("32 once more", x.load(100), 1);
        Due.is("7 the capacity can be set", x.setCapacity(100), 64);
    }

    /** A list of one entry. */
    private static void loadOne() {
        FrontCodedIndex x = new FrontCodedIndex();
        x.queue(7);
        Due.is("32 one page", x.load(40), 1);
        Due.is("32 a leaf", Keys.tree(x), "15/1");
        Due.is("9 value", x.get(), 7);
    }

    /** "Throws IllegalArgumentException if fill is not from 40 to 100": 40 is allowed. */
    private static void leastFill() {
        FrontCodedIndex x = new FrontCodedIndex();
        x.setCapacity(80);
        Keys.queueAll(x, Keys.signs('a', 4));
        Due.is("32 three pages", x.load(40), 3);
        // The limit is 32.
        Due.is("32 leaves", Keys.tree(x), "20/2 | 32/3 16/1");
    }

    /** "Throws IllegalArgumentException if fill is not from 40 to 100": 100 is allowed. */
    private static void greatestFill() {
        FrontCodedIndex x = new FrontCodedIndex();
        x.setCapacity(200);
        Keys.queueAll(x, Keys.signs('a', 25));
        Due.is("32 three pages", x.load(100), 3);
        Due.is("32 leaves", Keys.tree(x), "20/2 | 200/24 16/1");
    }

    /** "The limit is P * f / 100, rounded down." */
    private static void limitIsRoundedDown() {
        // 67 * 83 / 100 is 55.61, and six entries make 56; 67 * 84 / 100 is 56.28.
        FrontCodedIndex x = Keys.loaded(67, 83, Keys.signs('a', 6));
        Due.is("32 limit 55", Keys.tree(x), "20/2 | 48/5 16/1");
        FrontCodedIndex y = Keys.loaded(67, 84, Keys.signs('a', 6));
        Due.is("32 limit 56", Keys.tree(y), "56/6");
    }

    /** "an entry is added to the current leaf if the leaf is empty or would not be larger than the limit". */
    private static void leafUpToTheLimit() {
        FrontCodedIndex x = Keys.loaded(100, 56, "a b c d e f g");
        Due.is("32 as large as the limit", Keys.tree(x), "20/2 | 56/6 16/1");
        FrontCodedIndex y = Keys.loaded(100, 56, "a b c d e ff g");
        Due.is("32 larger by one", Keys.tree(y), "20/2 | 48/5 25/2");
        // "ef" takes 8 bytes behind "ee", and would take 9 by itself.
        FrontCodedIndex z = Keys.loaded(100, 57, "a b c d ee ef g");
        Due.is("32 as large, since a byte is shared", Keys.tree(z), "20/2 | 57/6 16/1");
    }

    /** "if the leaf is empty": an entry that is larger than the limit alone has a leaf for itself. */
    private static void leafOfOneEntryAboveTheLimit() {
        FrontCodedIndex x = Keys.loaded(64, 40, "abcdefghijkl bcdefghijklm");
        Due.is("32 27 is more than 25", Keys.tree(x), "20/2 | 27/1 27/1");
    }

    /** "if the inner page has fewer than two children or would not be larger than the limit". */
    private static void innerPageUpToTheLimit() {
        FrontCodedIndex x = Keys.loaded(64, 44, Keys.signs('a', 8));
        Due.is("32 limit 28", Keys.tree(x), "20/2 | 28/3 12/1 | 24/2 24/2 24/2 24/2");
        FrontCodedIndex y = Keys.loaded(64, 43, Keys.signs('a', 8));
        Due.is("32 limit 27", Keys.tree(y), "20/2 | 20/2 20/2 | 24/2 24/2 24/2 24/2");
    }

    /** "if the inner page has fewer than two children": the second one is added above the limit. */
    private static void innerPageOfTwoAboveTheLimit() {
        FrontCodedIndex x = Keys.loaded(64, 40, "commonstarta commonstartb commonstartc");
        Due.is("32 31 is more than 25", Keys.tree(x), "31/2 | 31/2 12/1 | 27/1 27/1 27/1");
    }

    /** "otherwise it begins the next inner page": the last one can have one child, and no separator. */
    private static void innerPageOfOne() {
        FrontCodedIndex x = Keys.loaded(64, 40, Keys.signs('a', 10));
        Due.is("32 one each", Keys.tree(x), "20/2 | 20/2 12/1 | 20/2 20/2 12/1 | 24/2 24/2 24/2 24/2 24/2");
        Due.is("32 the separator before it", Keys.allSeparators(x), "i | e,  | c, g, ");
    }

    /** "As long as a level has several pages": a single leaf is the root. */
    private static void oneLeafHasNoParent() {
        FrontCodedIndex x = Keys.loaded(64, 100, Keys.signs('a', 7));
        Due.is("32 one leaf", Keys.tree(x), "64/7");
        FrontCodedIndex y = Keys.loaded(64, 100, Keys.signs('a', 8));
        Due.is("32 two leaves", Keys.tree(y), "20/2 | 64/7 16/1");
    }

    /** "The tree holds at most 300 entries.": so many can be loaded. */
    private static void loadThreeHundred() {
        FrontCodedIndex x = new FrontCodedIndex();
        x.setCapacity(64);
        for (int i = 0; i < 300; i++) {
            x.setKey(i / 100 << 8 | i % 100, 2);
            x.queue(i);
        }
        int pages = x.load(40);
        Due.is("32 entries", x.size(), 300);
        Due.is("32 pages", x.statistic(1), pages);
        // Two entries a leaf, for a third one makes 8 + 9 + 8 + 8.
        Due.is("32 leaves", x.pageCount(x.height() - 1), 100 / 2 * 3);
        Due.is("14 the last", x.select(299), 299);
        x.feed(1);
        Due.thrown("8 full", IllegalStateException.class, () -> x.put(1) ? 1 : 0);
    }

    /** "Loads the load list into a new tree, which replaces the old one. All cursors are closed". */
    private static void loadReplacesAll() {
        FrontCodedIndex x = new FrontCodedIndex();
        Keys.putAll(x, Keys.signs('a', 20));
        for (int cursor = 0; cursor < 4; cursor++) {
            Keys.open(x, cursor, cursor == 3 ? "z" : "c");
        }
        Keys.queueAll(x, "B C");
        x.load(100);
        Due.is("32 entries", Keys.all(x), "B C");
        Due.is("32 pages", Keys.tree(x), "24/2");
        for (int cursor = 0; cursor < 4; cursor++) {
            Due.is("32 closed " + cursor, x.close(cursor), false);
        }
    }

    /** "the load list is empty then": loading again loads nothing. */
    private static void loadTwice() {
        FrontCodedIndex x = Keys.loaded(64, 100, Keys.signs('a', 8));
        Due.is("32 three pages", x.statistic(1), 3);
        Due.is("32 one page", x.load(100), 1);
        Due.is("32 no entries", x.size(), 0);
    }

    /** "making pages by loading counts as none of them". */
    private static void loadCountsNothing() {
        FrontCodedIndex x = Keys.loaded(64, 40, Keys.signs('a', 26));
        Due.is("22 splits", x.statistic(2), 0);
        Due.is("22 redistributions", x.statistic(3), 0);
        Due.is("22 merges", x.statistic(4), 0);
    }

    /** "Returns the number of entries.": none of an empty tree. */
    private static void saveEmptyTree() {
        FrontCodedIndex x = new FrontCodedIndex();
        Due.is("33 none", x.saveSnapshot(), 0);
        Keys.put(x, "a", 1);
        Due.is("34 none", x.restoreSnapshot(), 0);
        Due.is("34 an empty leaf", Keys.tree(x), "8/0");
    }

    /** "Saves the tree with its pages, and the capacity, in place of an earlier snapshot." */
    private static void saveInPlaceOfEarlier() {
        FrontCodedIndex x = Keys.loaded(64, 40, Keys.signs('a', 10));
        Due.is("33 ten", x.saveSnapshot(), 10);
        x.load(40);
        x.setCapacity(100);
        Keys.putAll(x, "y z");
        Due.is("33 two", x.saveSnapshot(), 2);
        Keys.range(x, "", "zz");
        x.removeRange();
        Due.is("34 two", x.restoreSnapshot(), 2);
        Due.is("34 the later tree", Keys.tree(x) + " " + Keys.all(x), "24/2 y z");
        Keys.range(x, "", "zz");
        x.removeRange();
        Due.is("34 the later capacity", x.setCapacity(64), 100);
    }

    /** "Saves the tree": it changes nothing else. */
    private static void saveLeavesAll() {
        FrontCodedIndex x = Keys.loaded(64, 40, Keys.signs('a', 10));
        Keys.open(x, 0, "c");
        Keys.open(x, 1, "z");
        Keys.queueAll(x, "p q");
        x.saveSnapshot();
        Due.is("33 key", Keys.get(x), "q");
        Due.is("33 cursor at its entry", x.current(0), 2);
        Due.is("33 cursor at the end", x.retreat(1), 9);
        x.load(100);
        Due.is("33 load list", Keys.all(x), "p q");
    }

    /** "as they were saved by the latest snapshot": changes behind it are not in it. */
    private static void savedIsApart() {
        FrontCodedIndex x = Keys.loaded(64, 40, Keys.signs('a', 10));
        String tree = Keys.tree(x) + " " + Keys.allSeparators(x);
        x.saveSnapshot();
        Keys.put(x, "a", 99);
        Keys.remove(x, "e");
        Keys.putAll(x, "ba bb bc bd be bf bg");
        Due.is("34 ten", x.restoreSnapshot(), 10);
        Due.is("34 pages and separators", Keys.tree(x) + " " + Keys.allSeparators(x), tree);
        Due.is("34 keys", Keys.all(x), Keys.signs('a', 10));
        for (int i = 0; i < 10; i++) {
            Due.is("34 value", x.select(i), i);
        }
    }

    /** "in place of an earlier snapshot", where a value alone is another one. */
    private static void savedValueAlone() {
        FrontCodedIndex x = new FrontCodedIndex();
        Keys.put(x, "a", 1);
        x.saveSnapshot();
        x.put(2);
        x.restoreSnapshot();
        Due.is("34 as it was saved", x.get(), 1);
        x.put(3);
        x.saveSnapshot();
        x.put(4);
        x.restoreSnapshot();
        Due.is("34 as it was saved later", x.get(), 3);
    }

    /** "the tree with its pages", where keys, page ends and separators alone are others. */
    private static void savedSeparatorsAlone() {
        FrontCodedIndex x = Keys.loaded(64, 100, Keys.signs('a', 14));
        Keys.remove(x, "a");
        x.saveSnapshot();
        Keys.put(x, "o", 1);
        Keys.remove(x, "d");
        Due.is("8 given to the left", Keys.tree(x) + " " + Keys.allSeparators(x), "20/2 | 56/6 64/7 i");
        x.restoreSnapshot();
        Due.is("34 separator", Keys.tree(x) + " " + Keys.allSeparators(x), "20/2 | 56/6 64/7 h");
        Due.is("34 entries", Keys.all(x), Keys.signs('b', 13));
        Keys.put(x, "gz", 1);
        Due.is("8 to the left of it", Keys.level(x, 1), "64/7 64/7");
    }

    /** "the latest snapshot, which is kept". */
    private static void restoreTwice() {
        FrontCodedIndex x = Keys.loaded(64, 40, Keys.signs('a', 10));
        String tree = Keys.tree(x) + " " + Keys.allSeparators(x);
        x.saveSnapshot();
        for (int i = 0; i < 3; i++) {
            Keys.range(x, "", "e");
            Due.is("11 four", x.removeRange(), 4);
            Keys.put(x, "f", 99);
            Due.is("34 ten again", x.restoreSnapshot(), 10);
            Due.is("34 pages again", Keys.tree(x) + " " + Keys.allSeparators(x), tree);
            Due.is("34 value again", x.select(5), 5);
        }
        x.load(100);
        Due.is("34 kept when loaded", x.restoreSnapshot(), 10);
    }

    /** A higher tree than the present one. */
    private static void restoreIntoEmptyTree() {
        FrontCodedIndex x = Keys.loaded(64, 40, Keys.signs('a', 10));
        String tree = Keys.tree(x);
        x.saveSnapshot();
        x.load(100);
        Due.is("34 entries", x.restoreSnapshot(), 10);
        Due.is("34 pages", Keys.tree(x), tree);
        Keys.put(x, "k", 10);
        Due.is("8 goes on", x.size(), 11);
    }

    /** A lower tree than the present one. */
    private static void restoreEmptyTree() {
        FrontCodedIndex x = new FrontCodedIndex();
        x.setCapacity(64);
        x.saveSnapshot();
        Keys.queueAll(x, Keys.signs('a', 10));
        x.load(40);
        Due.is("34 no entries", x.restoreSnapshot(), 0);
        Due.is("34 an empty leaf", Keys.tree(x), "8/0");
        Keys.putAll(x, Keys.signs('a', 8));
        Due.is("8 goes on", Keys.tree(x) + " " + Keys.allSeparators(x), "20/2 | 40/4 40/4 e");
    }

    /** "Restores the tree with its pages": none is merged or filled, nor is an empty leaf left out. */
    private static void restoreSmallPages() {
        FrontCodedIndex x = Keys.loaded(64, 75, Keys.signs('a', 26));
        Keys.remove(x, "z");
        String tree = "20/2 | 44/5 12/1 | 48/5 48/5 48/5 48/5 48/5 8/0";
        Due.is("10 an empty leaf", Keys.tree(x), tree);
        x.saveSnapshot();
        x.load(100);
        x.restoreSnapshot();
        Due.is("34 the empty leaf again", Keys.tree(x), tree);
        Keys.put(x, "z", 1);
        Due.is("8 its separator, too", x.pageSize(2, 5), 16);
    }

    /** "Restores the tree with its pages, and the capacity". */
    private static void restoreCapacity() {
        FrontCodedIndex x = new FrontCodedIndex();
        x.setCapacity(64);
        Keys.putAll(x, Keys.signs('a', 7));
        x.saveSnapshot();
        x.load(100);
        x.setCapacity(200);
        x.restoreSnapshot();
        Due.is("34 a full leaf", x.occupancyBits(), Double.doubleToLongBits(100.0));
        Keys.put(x, "h", 1);
        Due.is("34 64 is the limit again", Keys.tree(x), "20/2 | 40/4 40/4");
    }

    /** "All cursors are closed then.": those at entries and those at the end. */
    private static void restoreClosesAll() {
        FrontCodedIndex x = new FrontCodedIndex();
        Keys.putAll(x, "a b");
        x.saveSnapshot();
        for (int cursor = 0; cursor < 4; cursor++) {
            Keys.open(x, cursor, cursor < 2 ? "a" : "z");
        }
        x.restoreSnapshot();
        for (int cursor = 0; cursor < 4; cursor++) {
            Due.is("34 closed " + cursor, x.close(cursor), false);
        }
    }

    /** "Restoring leaves the key, the bound and the load list as they are." */
    private static void restoreLeavesBuffersAndList() {
        FrontCodedIndex x = new FrontCodedIndex();
        x.saveSnapshot();
        Keys.queueAll(x, "k m");
        Keys.range(x, "bound", "abcdefghijkl");
        x.restoreSnapshot();
        Due.is("34 key", Keys.get(x), "abcdefghijkl");
        Due.is("34 bound", x.swapBound(), 5);
        Due.is("34 bound", Keys.get(x), "bound");
        x.load(100);
        Due.is("34 load list", Keys.all(x), "k m");
    }
}
