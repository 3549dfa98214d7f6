import java.util.NoSuchElementException;

/** Promises 7 to 16: the entries. */
public final class EntryTest {
    public static void main(String[] args) {
        setCapacity();
        capacityBoundsPages();
        put();
        mostEntries();
        get();
        remove();
        removeRange();
        sizeAndRank();
        select();
        floor();
        countPrefix();
        Due.end("EntryTest");
    }

    private static void setCapacity() {
        FrontCodedIndex x = new FrontCodedIndex();
        Due.is("7 first", x.setCapacity(64), 96);
        Due.is("7 least", x.setCapacity(200), 64);
        Due.thrown("7 below", IllegalArgumentException.class, () -> x.setCapacity(63));
        Due.thrown("7 above", IllegalArgumentException.class, () -> x.setCapacity(201));
        Due.thrown("7 negative", IllegalArgumentException.class, () -> x.setCapacity(-64));
        Due.is("7 unchanged", x.setCapacity(100), 200);
        Keys.put(x, "a", 1);
        Due.thrown("7 entries", IllegalStateException.class, () -> x.setCapacity(100));
        Due.thrown("7 both", IllegalArgumentException.class, () -> x.setCapacity(63));
        x.remove();
        Due.is("7 empty again", x.setCapacity(64), 100);
    }

    private static void capacityBoundsPages() {
        FrontCodedIndex x = new FrontCodedIndex();
        Keys.putSigns(x, "abcdefghijk");
        Due.is("7 eleven of 8 bytes fit into 96", x.height(), 1);
        Keys.putSigns(x, "l");
        Due.is("7 twelve don't", x.height(), 2);
        FrontCodedIndex y = new FrontCodedIndex();
        y.setCapacity(200);
        Keys.putSigns(y, "abcdefghijklmnopqrstuvwx");
        Due.is("7 24 fit into 200", Keys.level(y, 0), "200/24");
    }

    private static void put() {
        FrontCodedIndex x = new FrontCodedIndex();
        Due.is("8 empty key", x.put(5), true);
        Due.is("8 changed", x.put(6), false);
        Due.is("8 value", x.get(), 6);
        Due.is("8 prefix", Keys.put(x, "ab", Integer.MIN_VALUE), true);
        Due.is("8 prefix", Keys.put(x, "a", Integer.MAX_VALUE), true);
        Due.is("8 longest", Keys.put(x, "abcdefghijkl", -1), true);
        Due.is("8 key is left", Keys.get(x), "abcdefghijkl");
        Due.is("8 order", Keys.all(x), " a ab abcdefghijkl");
        Due.is("8 size", x.size(), 4);
        Keys.set(x, "ab");
        Due.is("8 its own value", x.get(), Integer.MIN_VALUE);
    }

    /** A run can't fill the tree in 512 calls, so this goes on behind them. */
    private static void mostEntries() {
        FrontCodedIndex x = new FrontCodedIndex();
        for (int i = 0; i < 300; i++) {
            x.setKey((i / 100) << 8 | i % 100, 2);
            Due.is("8 added", x.put(i), true);
            Due.is("31 queued", x.queue(i), i + 1);
        }
        Due.is("8 changed when full", x.put(7), false);
        x.feed(1);
        Due.thrown("8 full", IllegalStateException.class, () -> x.put(1) ? 1 : 0);
        Due.thrown("31 full", IllegalStateException.class, () -> x.queue(1));
        Due.is("8 size", x.size(), 300);
        x.cutKey(2);
        x.remove();
        x.feed(1);
        Due.is("8 room again", x.put(1), true);
    }

    private static void get() {
        FrontCodedIndex x = new FrontCodedIndex();
        Due.thrown("9 empty tree", NoSuchElementException.class, x::get);
        Keys.put(x, "ab", 12);
        Due.is("9 value", x.get(), 12);
        for (String other : new String[] {"", "a", "abc", "aa", "ac"}) {
            Keys.set(x, other);
            Due.thrown("9 not " + other, NoSuchElementException.class, x::get);
            Due.is("9 key is left", Keys.get(x), other);
        }
    }

    private static void remove() {
        FrontCodedIndex x = new FrontCodedIndex();
        Due.thrown("10 empty tree", NoSuchElementException.class, x::remove);
        Keys.putSigns(x, "abc");
        Due.is("10 value", Keys.remove(x, "b"), 'b');
        Due.is("10 key is left", Keys.get(x), "b");
        Due.thrown("10 again", NoSuchElementException.class, x::remove);
        Due.is("10 others stay", Keys.all(x), "a c");
        Keys.set(x, "aa");
        Due.thrown("10 other key", NoSuchElementException.class, x::remove);
        Due.is("10 size", x.size(), 2);
    }

    private static void removeRange() {
        FrontCodedIndex x = new FrontCodedIndex();
        x.setCapacity(64);
        Keys.putSigns(x, "abcdefghijklmnopqrstuvwxyz");
        Keys.range(x, "d", "g");
        Due.is("11 bound is in, key is not", x.removeRange(), 3);
        Due.is("11 key is left", Keys.get(x), "g");
        x.swapBound();
        Due.is("11 bound is left", Keys.get(x), "d");
        Due.is("11 the rest", Keys.all(x), "a b c g h i j k l m n o p q r s t u v w x y z");
        Keys.range(x, "g", "g");
        Due.is("11 empty range", x.removeRange(), 0);
        Keys.range(x, "h", "b");
        Due.is("11 turned round", x.removeRange(), 0);
        Keys.range(x, "d", "gg");
        Due.is("11 keys that aren't there", x.removeRange(), 1);
        Keys.range(x, "", "zz");
        Due.is("11 all", x.removeRange(), 22);
        Due.is("11 one leaf remains", Keys.level(x, 0), "8/0");
    }

    private static void sizeAndRank() {
        FrontCodedIndex x = new FrontCodedIndex();
        Due.is("12 empty", x.size(), 0);
        Keys.putSigns(x, "bdf");
        Due.is("12 three", x.size(), 3);
        Keys.put(x, "d", 9);
        Due.is("12 changed", x.size(), 3);
        String[] keys = {"", "a", "b", "bb", "d", "e", "f", "ff"};
        int[] ranks = {0, 0, 0, 1, 1, 2, 2, 3};
        for (int i = 0; i < keys.length; i++) {
            Keys.set(x, keys[i]);
            Due.is("13 " + keys[i], x.rank(), ranks[i]);
        }
        Due.is("13 key is left", Keys.get(x), "ff");
        Keys.remove(x, "b");
        Due.is("12 removed", x.size(), 2);
        Due.is("13 removed", x.rank(), 0);
    }

    private static void select() {
        FrontCodedIndex x = new FrontCodedIndex();
        Due.thrown("14 empty", IndexOutOfBoundsException.class, () -> x.select(0));
        Keys.putSigns(x, "cab");
        Due.is("14 first", x.select(0), 'a');
        Due.is("14 key", Keys.get(x), "a");
        Due.is("14 last", x.select(2), 'c');
        Due.is("14 key", Keys.get(x), "c");
        Due.thrown("14 negative", IndexOutOfBoundsException.class, () -> x.select(-1));
        Due.thrown("14 behind", IndexOutOfBoundsException.class, () -> x.select(3));
        Due.is("14 key is left", Keys.get(x), "c");
    }

    private static void floor() {
        FrontCodedIndex x = new FrontCodedIndex();
        Due.thrown("15 empty", NoSuchElementException.class, x::floor);
        Keys.put(x, "b", 1);
        Keys.put(x, "bb", 2);
        Keys.put(x, "d", 3);
        String[] keys = {"b", "ba", "bb", "bbb", "c", "d", "zz"};
        String[] floors = {"b", "b", "bb", "bb", "bb", "d", "d"};
        for (int i = 0; i < keys.length; i++) {
            Keys.set(x, keys[i]);
            int value = x.floor();
            Due.is("15 " + keys[i], Keys.get(x), floors[i]);
            Due.is("15 value", value, x.get());
        }
        Keys.set(x, "azz");
        Due.thrown("15 below all", NoSuchElementException.class, x::floor);
        Due.is("15 key is left", Keys.get(x), "azz");
    }

    private static void countPrefix() {
        FrontCodedIndex x = new FrontCodedIndex();
        String[] entries = {"", "a", "ab", "abc", "abd", "ac", "b", "ba"};
        for (String entry : entries) {
            Keys.put(x, entry, 0);
        }
        String[] keys = {"", "a", "ab", "abc", "abcd", "aa", "b", "c"};
        int[] counts = {8, 5, 3, 1, 0, 0, 2, 0};
        for (int i = 0; i < keys.length; i++) {
            Keys.set(x, keys[i]);
            Due.is("16 " + keys[i], x.countPrefix(), counts[i]);
        }
        Due.is("16 key is left", Keys.get(x), "c");
    }
}
