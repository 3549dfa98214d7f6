import java.util.NoSuchElementException;

/** The boundary cases of promises 7 to 16: the entries. */
public final class EntryEdgeTest {
    private static final String GREATEST = "\177\177\177\177\177\177\177\177\177\177\177\177";

    public static void main(String[] args) {
        leastCapacity();
        greatestCapacity();
        capacityOfEmptiedTree();
        capacityLeavesTheRest();
        putEmptyKey();
        putLongestKey();
        putLeastAndGreatestValue();
        putChangesValue();
        putWithThreeHundred();
        getFirstAndLast();
        removeOnlyEntry();
        removeFirstAndLast();
        rangeOfEmptyTree();
        rangeOfEqualKeys();
        rangeTurnedRound();
        rangeTakesBoundNotKey();
        rangeWithoutEntries();
        rangeOfAll();
        rangeLeavesGreatestKey();
        rangeOneAfterTheOther();
        sizeFromNoneUp();
        rankAtTheEnds();
        selectFirstAndLast();
        floorAtTheEnds();
        floorOfEmptyKey();
        prefixOfAll();
        prefixOfLongestKey();
        prefixWithoutEntries();
        prefixOfGreatestBytes();
        Due.end("EntryEdgeTest");
    }

    /** "Throws IllegalArgumentException if p is not from 64 to 200": 64 is allowed. */
    private static void leastCapacity() {
        FrontCodedIndex x = new FrontCodedIndex();
        Due.is("7 previous", x.setCapacity(64), 96);
        Keys.putAll(x, Keys.signs('a', 7));
        Due.is("7 a leaf of 64", Keys.tree(x), "64/7");
        Keys.put(x, "h", 1);
        Due.is("7 none of 72", Keys.tree(x), "20/2 | 40/4 40/4");
    }

    /** "Throws IllegalArgumentException if p is not from 64 to 200": 200 is allowed. */
    private static void greatestCapacity() {
        FrontCodedIndex x = new FrontCodedIndex();
        Due.is("7 previous", x.setCapacity(200), 96);
        Keys.putAll(x, Keys.signs('a', 24));
        Due.is("7 a leaf of 200", Keys.tree(x), "200/24");
        Keys.put(x, "zz", 1);
        Due.is("7 none of 209", x.height(), 2);
    }

    /** "Throws IllegalStateException if the tree has entries", and no longer when it has none. */
    private static void capacityOfEmptiedTree() {
        FrontCodedIndex x = new FrontCodedIndex();
        Due.is("7 of a new tree", x.setCapacity(100), 96);
        x.put(1);
        Due.thrown("7 one entry", IllegalStateException.class, () -> x.setCapacity(99));
        x.remove();
        Due.is("7 the same once more", x.setCapacity(100), 100);
        Due.is("7 as it was set", x.setCapacity(64), 100);
        x.queue(1);
        Due.is("7 a queued entry is none of the tree", x.setCapacity(65), 64);
    }

    /** "Sets the capacity.", where the tree is empty: nothing else is changed. */
    private static void capacityLeavesTheRest() {
        FrontCodedIndex x = new FrontCodedIndex();
        Keys.open(x, 0, "a");
        Keys.queueAll(x, "p q");
        x.setCapacity(64);
        Due.is("7 key", Keys.get(x), "q");
        Due.is("7 the cursor is open", x.close(0), true);
        Due.is("7 the other isn't", x.close(1), false);
        Due.is("7 pages", Keys.tree(x), "8/0");
        x.load(100);
        Due.is("7 load list", Keys.all(x), "p q");
    }

    /** "A key is a sequence of 0 to 12 bytes": the empty key has an entry as others have. */
    private static void putEmptyKey() {
        FrontCodedIndex x = new FrontCodedIndex();
        Due.is("8 added", x.put(5), true);
        Due.is("8 once", x.put(6), false);
        Due.is("9 its value", x.get(), 6);
        Due.is("12 one entry", x.size(), 1);
        Due.is("10 removed", x.remove(), 6);
        Due.thrown("9 gone", NoSuchElementException.class, x::get);
    }

    /** "A key is a sequence of 0 to 12 bytes": the twelfth byte tells keys apart. */
    private static void putLongestKey() {
        FrontCodedIndex x = new FrontCodedIndex();
        Due.is("8 added", Keys.put(x, "abcdefghijkl", 1), true);
        Due.is("8 another", Keys.put(x, "abcdefghijkm", 2), true);
        Due.is("8 a prefix", Keys.put(x, "abcdefghijk", 3), true);
        Due.is("8 the first again", Keys.put(x, "abcdefghijkl", 4), false);
        Due.is("9 its value", x.get(), 4);
        Due.is("10 the other's", Keys.remove(x, "abcdefghijkm"), 2);
        Due.is("12 two entries", x.size(), 2);
    }

    /** "An entry consists of a key and a value, which is an int." */
    private static void putLeastAndGreatestValue() {
        FrontCodedIndex x = new FrontCodedIndex();
        for (int value : new int[] {Integer.MIN_VALUE, Integer.MAX_VALUE, -1, 0}) {
            x.put(value);
            Due.is("9 value", x.get(), value);
        }
    }

    /** "or changes the value of the entry with the key": nothing else, in a full leaf as well. */
    private static void putChangesValue() {
        FrontCodedIndex x = new FrontCodedIndex();
        x.setCapacity(64);
        Keys.putAll(x, Keys.signs('a', 7));
        Keys.open(x, 0, "d");
        Due.is("8 no entry added", Keys.put(x, "d", 100), false);
        Due.is("8 no page changed", Keys.tree(x), "64/7");
        Due.is("12 no entry more", x.size(), 7);
        Due.is("28 the cursor is at it", x.current(0), 100);
    }

    /** "if there is no entry with the key and there are 300 entries": one with the key is changed. */
    private static void putWithThreeHundred() {
        FrontCodedIndex x = new FrontCodedIndex();
        for (int i = 0; i < 300; i++) {
            x.setKey(i / 100 << 8 | i % 100, 2);
            Due.is("8 added", x.put(i), true);
        }
        x.setKey(0, 2);
        Due.is("8 changed", x.put(7), false);
        Due.is("9 value", x.get(), 7);
        x.feed(0);
        Due.thrown("8 full", IllegalStateException.class, () -> x.put(1) ? 1 : 0);
        x.cutKey(2);
        x.remove();
        x.feed(0);
        Due.is("8 room for one", x.put(1), true);
        Due.is("12 full again", x.size(), 300);
    }

    /** "Returns the value of the entry with the key.", in the first place and in the last. */
    private static void getFirstAndLast() {
        FrontCodedIndex x = Keys.loaded(64, 100, Keys.signs('a', 26));
        Keys.set(x, "a");
        Due.is("9 first", x.get(), 0);
        Keys.set(x, "z");
        Due.is("9 last", x.get(), 25);
        Keys.set(x, "h");
        Due.is("9 first of its leaf, equal to the separator", x.get(), 7);
        Keys.set(x, "g");
        Due.is("9 last of its leaf", x.get(), 6);
    }

    /** "Removes the entry with the key.", where there is no other. */
    private static void removeOnlyEntry() {
        FrontCodedIndex x = new FrontCodedIndex();
        Keys.put(x, "a", 9);
        Due.is("10 value", x.remove(), 9);
        Due.is("10 an empty leaf", Keys.tree(x), "8/0");
        Due.is("12 none", x.size(), 0);
        Due.is("8 added anew", x.put(8), true);
    }

    /** "Removes the entry with the key.", in the first place and in the last. */
    private static void removeFirstAndLast() {
        FrontCodedIndex x = Keys.loaded(64, 100, Keys.signs('a', 14));
        Due.is("10 first", Keys.remove(x, "a"), 0);
        Due.is("10 last", Keys.remove(x, "n"), 13);
        Due.is("10 the rest", Keys.all(x), Keys.signs('b', 12));
    }

    /** "Returns how many entries were removed.": none from an empty tree. */
    private static void rangeOfEmptyTree() {
        FrontCodedIndex x = new FrontCodedIndex();
        Due.is("11 empty key and bound", x.removeRange(), 0);
        Keys.range(x, "", GREATEST);
        Due.is("11 all keys", x.removeRange(), 0);
        Due.is("11 the leaf stays", Keys.tree(x), "8/0");
    }

    /** "not less than the bound and less than the key": none where both are the same. */
    private static void rangeOfEqualKeys() {
        FrontCodedIndex x = new FrontCodedIndex();
        x.put(1);
        Due.is("11 both empty", x.removeRange(), 0);
        Keys.put(x, "a", 2);
        Keys.range(x, "a", "a");
        Due.is("11 both at an entry", x.removeRange(), 0);
        Due.is("12 both stay", x.size(), 2);
    }

    /** "not less than the bound and less than the key": none where the bound is greater. */
    private static void rangeTurnedRound() {
        FrontCodedIndex x = Keys.loaded(64, 100, Keys.signs('a', 14));
        Keys.range(x, "k", "c");
        Due.is("11 none", x.removeRange(), 0);
        Keys.range(x, "z", "");
        Due.is("11 none", x.removeRange(), 0);
        Due.is("12 all stay", x.size(), 14);
    }

    /** "not less than the bound and less than the key": the bound's own entry goes, the key's not. */
    private static void rangeTakesBoundNotKey() {
        FrontCodedIndex x = Keys.loaded(64, 100, "a b ba c ca d");
        Keys.range(x, "b", "c");
        Due.is("11 two", x.removeRange(), 2);
        Due.is("11 the rest", Keys.all(x), "a c ca d");
    }

    /** A bound and a key between which no entry is. */
    private static void rangeWithoutEntries() {
        FrontCodedIndex x = Keys.loaded(64, 100, "b d f");
        for (String[] ends : new String[][] {{"", "b"}, {"bb", "d"}, {"c", "cc"}, {"ff", "z"}}) {
            Keys.range(x, ends[0], ends[1]);
            Due.is("11 none from " + ends[0], x.removeRange(), 0);
        }
        Due.is("12 all stay", x.size(), 3);
    }

    /** "Removes all entries": the first, with the empty key, and the last. */
    private static void rangeOfAll() {
        FrontCodedIndex x = Keys.loaded(64, 100, Keys.signs('0', 50));
        Keys.set(x, "");
        x.put(1);
        Keys.range(x, "", "\177");
        Due.is("11 all", x.removeRange(), 51);
        Due.is("11 one empty leaf", Keys.tree(x), "8/0");
        Due.is("12 none left", x.size(), 0);
    }

    /** "less than the key": the greatest key of all can't be in a range. */
    private static void rangeLeavesGreatestKey() {
        FrontCodedIndex x = new FrontCodedIndex();
        Keys.put(x, "a", 1);
        Keys.put(x, GREATEST, 2);
        Keys.range(x, "", GREATEST);
        Due.is("11 the other", x.removeRange(), 1);
        x.swapBound();
        Keys.set(x, GREATEST);
        Due.is("11 it stays", x.get(), 2);
    }

    /**
     * "The entries of a range are removed one after the other, each with what removing it brings.":
     * "in their order", for the other way round the leaves would be merged at last.
     */
    private static void rangeOneAfterTheOther() {
        FrontCodedIndex x = Keys.loaded(64, 100, Keys.signs('a', 14));
        Keys.range(x, "b", "i");
        Due.is("11 seven", x.removeRange(), 7);
        // When "g" goes, 16 and 64 don't fit; when "h" goes, its leaf is large enough.
        Due.is("11 as one after the other", Keys.tree(x), "20/2 | 16/1 56/6");
        FrontCodedIndex y = Keys.loaded(64, 100, Keys.signs('a', 14));
        for (char sign = 'h'; sign >= 'b'; sign--) {
            Keys.remove(y, String.valueOf(sign));
        }
        Due.is("10 the other way round", Keys.tree(y), "64/7");
        FrontCodedIndex z = Keys.loaded(64, 40, Keys.signs('A', 32));
        Keys.range(z, "A", "C");
        Due.is("11 two", z.removeRange(), 2);
        // Four merges, up to the root, with the first one; three more with the second one.
        Due.is("11 each with its merges", z.statistic(4), 7);
        Due.is("11 four levels are left", z.height(), 4);
    }

    /** "Returns the number of entries.", from none on. */
    private static void sizeFromNoneUp() {
        FrontCodedIndex x = new FrontCodedIndex();
        for (int i = 0; i < 40; i++) {
            Due.is("12 entries", x.size(), i);
            x.setKey(i, 1);
            x.put(i);
        }
        for (int i = 40; i > 0; i--) {
            Due.is("12 entries", x.size(), i);
            x.setKey(i - 1, 1);
            x.remove();
        }
        Due.is("12 none", x.size(), 0);
    }

    /** "Returns how many entries have a key less than the key.": none, all but the last, and all. */
    private static void rankAtTheEnds() {
        FrontCodedIndex x = new FrontCodedIndex();
        Keys.set(x, GREATEST);
        Due.is("13 empty tree", x.rank(), 0);
        Keys.putAll(x, "b bb d");
        String[] keys = {"", "azz", "b", "b\0", "bb", "d", "d\0", GREATEST};
        int[] ranks = {0, 0, 0, 1, 1, 2, 3, 3};
        for (int i = 0; i < keys.length; i++) {
            Keys.set(x, keys[i]);
            Due.is("13 " + i, x.rank(), ranks[i]);
        }
    }

    /** "the number of the entry in the order, from 0": the first and the last. */
    private static void selectFirstAndLast() {
        FrontCodedIndex x = Keys.loaded(64, 100, Keys.signs('a', 26));
        Due.is("14 first", x.select(0), 0);
        Due.is("14 its key", Keys.get(x), "a");
        Due.is("14 last", x.select(25), 25);
        Due.is("14 its key", Keys.get(x), "z");
        Due.thrown("14 behind", IndexOutOfBoundsException.class, () -> x.select(26));
        Keys.remove(x, "z");
        Due.thrown("14 no longer", IndexOutOfBoundsException.class, () -> x.select(25));
    }

    /** "the greatest key of an entry that is not greater than the key": the key itself, too. */
    private static void floorAtTheEnds() {
        FrontCodedIndex x = Keys.loaded(64, 100, "b bb d");
        String[] keys = {"b", "b\0", "bb", "bb\0", "c\177", "d", GREATEST};
        int[] values = {0, 0, 1, 1, 1, 2, 2};
        for (int i = 0; i < keys.length; i++) {
            Keys.set(x, keys[i]);
            Due.is("15 " + i, x.floor(), values[i]);
            Due.is("15 its key " + i, x.get(), values[i]);
        }
        Keys.set(x, "a" + GREATEST.substring(1));
        Due.thrown("15 below the first", NoSuchElementException.class, x::floor);
    }

    /** "Throws NoSuchElementException if there is none": the empty key has none below itself. */
    private static void floorOfEmptyKey() {
        FrontCodedIndex x = new FrontCodedIndex();
        Keys.put(x, "a", 1);
        Keys.set(x, "");
        Due.thrown("15 none", NoSuchElementException.class, x::floor);
        x.put(2);
        Due.is("15 itself", x.floor(), 2);
        Keys.set(x, "\0");
        Due.is("15 the empty key", x.floor(), 2);
        Due.is("15 set", x.cutKey(0), 0);
    }

    /** "how many entries have a key that begins with the key": with the empty key all do. */
    private static void prefixOfAll() {
        FrontCodedIndex x = new FrontCodedIndex();
        Due.is("16 empty tree", x.countPrefix(), 0);
        Keys.putAll(x, "a b c");
        Keys.set(x, "");
        Due.is("16 all", x.countPrefix(), 3);
        x.put(1);
        Due.is("16 the empty key itself as well", x.countPrefix(), 4);
    }

    /** "begins with the key": a key begins with itself, of 12 bytes too, but not with a longer one. */
    private static void prefixOfLongestKey() {
        FrontCodedIndex x = new FrontCodedIndex();
        Keys.putAll(x, "abcdefghijk abcdefghijkl abcdefghijkm");
        Keys.set(x, "abcdefghijkl");
        Due.is("16 itself", x.countPrefix(), 1);
        Keys.set(x, "abcdefghijkn");
        Due.is("16 none", x.countPrefix(), 0);
        Keys.set(x, "abcdefghijk");
        Due.is("16 with both longer ones", x.countPrefix(), 3);
        Keys.remove(x, "abcdefghijk");
        Due.is("16 without itself", x.countPrefix(), 2);
    }

    /** "Returns how many entries": none before the first, between two, behind the last. */
    private static void prefixWithoutEntries() {
        FrontCodedIndex x = new FrontCodedIndex();
        Keys.putAll(x, "b bd d");
        for (String key : new String[] {"a", "bc", "bda", "c", "da", "e"}) {
            Keys.set(x, key);
            Due.is("16 none with " + key, x.countPrefix(), 0);
        }
    }

    /** A prefix that no key goes behind. */
    private static void prefixOfGreatestBytes() {
        FrontCodedIndex x = new FrontCodedIndex();
        for (String key : new String[] {"~", "\177", "\177\0", "\177\177", GREATEST}) {
            Keys.put(x, key, 1);
        }
        Keys.set(x, "\177");
        Due.is("16 four", x.countPrefix(), 4);
        Keys.set(x, "\177\177");
        Due.is("16 two", x.countPrefix(), 2);
        Keys.set(x, GREATEST);
        Due.is("16 one", x.countPrefix(), 1);
    }
}
