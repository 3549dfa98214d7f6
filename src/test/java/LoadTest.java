import java.util.NoSuchElementException;

/** Promises 31 to 34: loading, and the snapshot. */
public final class LoadTest {
    public static void main(String[] args) {
        queue();
        fillFactor();
        loadReplaces();
        loadLevels();
        loadLongKeys();
        limitIsRoundedDown();
        loadNothing();
        save();
        restore();
        restoreLeaves();
        Due.end("LoadTest");
    }

    private static void queueSigns(FrontCodedIndex x, String signs) {
        for (int i = 0; i < signs.length(); i++) {
            Keys.queue(x, signs.substring(i, i + 1), signs.charAt(i));
        }
    }

    private static void queue() {
        FrontCodedIndex x = new FrontCodedIndex();
        Due.is("31 empty key first", x.queue(1), 1);
        Due.thrown("31 same key", IllegalStateException.class, () -> x.queue(2));
        Due.is("31 greater", Keys.queue(x, "b", 3), 2);
        Keys.set(x, "a");
        Due.thrown("31 less", IllegalStateException.class, () -> x.queue(4));
        Due.is("31 prefix goes before", Keys.queue(x, "bb", 5), 3);
        Keys.set(x, "b");
        Due.thrown("31 prefix", IllegalStateException.class, () -> x.queue(6));
        Due.is("31 tree is left", x.size(), 0);
        x.load(100);
        Due.is("31 list", Keys.all(x), " b bb");
        Due.is("31 value", x.select(1), 3);
        Due.is("31 value", x.select(2), 5);
    }

    private static void fillFactor() {
        FrontCodedIndex x = new FrontCodedIndex();
        x.queue(1);
        x.open(0);
        for (int fill : new int[] {39, 101, 0, -50, Integer.MAX_VALUE, Integer.MIN_VALUE}) {
            Due.thrown("32 fill " + fill, IllegalArgumentException.class, () -> x.load(fill));
        }
        Due.is("32 nothing loaded", x.size(), 0);
        Due.is("32 cursor stays open", x.close(0), true);
        Due.is("32 least", x.load(40), 1);
        Due.is("32 one entry", x.size(), 1);
        Due.is("32 greatest", x.load(100), 1);
    }

    private static void loadReplaces() {
        FrontCodedIndex x = new FrontCodedIndex();
        Keys.putSigns(x, "xyz");
        for (int cursor = 0; cursor < 4; cursor++) {
            x.open(cursor);
        }
        queueSigns(x, "abc");
        Keys.set(x, "q");
        x.swapBound();
        Keys.set(x, "key");
        Due.is("32 pages", x.load(80), 1);
        Due.is("32 key is left", Keys.get(x), "key");
        Due.is("32 bound is left", x.swapBound(), 1);
        for (int cursor = 0; cursor < 4; cursor++) {
            Due.is("32 cursor closed", x.close(cursor), false);
        }
        Due.is("32 entries", Keys.all(x), "a b c");
        Due.is("32 list is empty", x.queue(1), 1);
        Due.is("32 capacity stays", x.load(40) + x.statistic(0), 1 + 16);
    }

    private static void loadLevels() {
        FrontCodedIndex x = new FrontCodedIndex();
        x.setCapacity(64);
        queueSigns(x, "abcdefghijklmnopqrs");
        // The limit is 32: three entries a leaf, and 8 + 3 * 4 + 2 * 4 for three children.
        Due.is("32 pages", x.load(50), 7 + 3 + 1);
        Due.is("32 leaves", Keys.level(x, 2), "32/3 32/3 32/3 32/3 32/3 32/3 16/1");
        Due.is("32 inner pages", Keys.level(x, 1), "28/3 28/3 12/1");
        Due.is("32 root", Keys.level(x, 0), "28/3");
        Due.is("32 separators", Keys.separators(x, 0, 0), "j s");
        Due.is("32 separators", Keys.separators(x, 1, 0), "d g");
        Due.is("32 a single child", Keys.separators(x, 1, 2), "");
        Due.is("32 no splits", x.statistic(2) + x.statistic(3) + x.statistic(4), 0);
    }

    private static void loadLongKeys() {
        FrontCodedIndex x = new FrontCodedIndex();
        x.setCapacity(64);
        for (char sign = 'a'; sign <= 'e'; sign++) {
            Keys.queue(x, "commonstart" + sign, sign);
        }
        // The limit is 25, and an entry alone in its leaf makes 8 + 19.
        Due.is("32 pages", x.load(40), 5 + 3 + 2 + 1);
        Due.is("32 leaves", Keys.level(x, 3), "27/1 27/1 27/1 27/1 27/1");
        Due.is("32 two children whatever the limit", Keys.level(x, 2), "31/2 31/2 12/1");
        Due.is("32 next level", Keys.level(x, 1), "31/2 12/1");
        Due.is("32 root", Keys.level(x, 0), "31/2");
        Due.is("32 separators", Keys.separators(x, 2, 1), "commonstartd");
        Due.is("32 separators", Keys.separators(x, 0, 0), "commonstarte");
    }

    private static void limitIsRoundedDown() {
        FrontCodedIndex x = new FrontCodedIndex();
        x.setCapacity(65);
        queueSigns(x, "abcdefg");
        // 65 * 98 / 100 is 63.7, so that a seventh entry of a leaf of 64 is too much.
        Due.is("32 limit 63", x.load(98), 3);
        queueSigns(x, "abcdefg");
        Due.is("32 limit 64", x.load(99), 1);
    }

    private static void loadNothing() {
        FrontCodedIndex x = PageTest.fifty();
        Due.is("32 nothing", x.load(60), 1);
        Due.is("32 an empty leaf", Keys.level(x, 0), "8/0");
        Due.is("32 no entries", x.size(), 0);
        Due.is("32 height", x.height(), 1);
    }

    private static void save() {
        FrontCodedIndex x = new FrontCodedIndex();
        Due.is("33 empty tree", x.saveSnapshot(), 0);
        Keys.putSigns(x, "ab");
        Due.is("33 two entries", x.saveSnapshot(), 2);
        Keys.putSigns(x, "c");
        x.open(0);
        Due.is("33 in place of the earlier", x.saveSnapshot(), 3);
        Due.is("33 cursor stays", x.current(0), 'c');
        x.removeAt(0);
        Due.is("33 restored", x.restoreSnapshot(), 3);
        Due.is("33 entries", Keys.all(x), "a b c");
    }

    private static void restore() {
        FrontCodedIndex x = PageTest.fifty();
        int sizes = x.statistic(0);
        x.saveSnapshot();
        x.setKey(10, 1);
        x.put(-1);
        x.setKey(0, 0);
        x.swapBound();
        x.setKey(127, 1);
        Due.is("34 all removed", x.removeRange(), 50);
        x.setCapacity(200);
        Keys.putSigns(x, "a");
        Due.is("34 restored", x.restoreSnapshot(), 50);
        Due.is("34 size", x.size(), 50);
        Due.is("34 height", x.height(), 3);
        Due.is("34 sizes", x.statistic(0), sizes);
        Due.is("34 leaves", Keys.level(x, 2), "64/7 64/7 64/7 64/7 64/7 64/7 40/4 40/4");
        x.setKey(10, 1);
        Due.is("34 value as it was", x.get(), 10);
        Due.is("34 separator", x.separator(0, 0, 0) + x.keyByte(0), 29);
        double percent = 464.0 * 100.0 / 8.0 / 64.0;
        Due.is("34 capacity", x.occupancyBits(), Double.doubleToLongBits(percent));
        x.setKey(10, 1);
        x.remove();
        Due.is("34 is kept", x.restoreSnapshot(), 50);
        x.load(100);
        Due.is("34 is kept after loading", x.restoreSnapshot(), 50);
    }

    private static void restoreLeaves() {
        FrontCodedIndex x = new FrontCodedIndex();
        Due.thrown("34 none saved", IllegalStateException.class, x::restoreSnapshot);
        Keys.putSigns(x, "ab");
        x.saveSnapshot();
        queueSigns(x, "cd");
        for (int cursor = 0; cursor < 4; cursor++) {
            x.open(cursor);
        }
        Keys.set(x, "bound");
        x.swapBound();
        Keys.set(x, "key");
        x.restoreSnapshot();
        Due.is("34 key is left", Keys.get(x), "key");
        Due.is("34 bound is left", x.swapBound(), 5);
        for (int cursor = 0; cursor < 4; cursor++) {
            Due.is("34 cursor closed", x.close(cursor), false);
        }
        Keys.set(x, "d");
        Due.thrown("34 load list is left", IllegalStateException.class, () -> x.queue(1));
        x.load(100);
        Due.is("34 load list is left", Keys.all(x), "c d");
        Due.thrown("34 gone", NoSuchElementException.class, () -> {
            Keys.set(x, "a");
            return x.get();
        });
    }
}
