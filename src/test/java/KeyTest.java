import java.util.NoSuchElementException;

/** Promises 1 to 6: a new object, and the key buffer. */
public final class KeyTest {
    public static void main(String[] args) {
        newObject();
        newObjectsAreApart();
        feed();
        setKey();
        cutKey();
        keyByte();
        swapBound();
        Due.end("KeyTest");
    }

    private static void newObject() {
        FrontCodedIndex x = new FrontCodedIndex();
        Due.is("1 size", x.size(), 0);
        Due.is("1 height", x.height(), 1);
        Due.is("1 pages", Keys.level(x, 0), "8/0");
        for (int what = 0; what < 5; what++) {
            Due.is("1 statistic " + what, x.statistic(what), new int[] {8, 1, 0, 0, 0}[what]);
        }
        Due.is("1 bound", x.swapBound(), 0);
        Due.is("1 key", x.swapBound(), 0);
        Due.thrown("1 key byte", IndexOutOfBoundsException.class, () -> x.keyByte(0));
        Due.is("1 rank", x.rank(), 0);
        Due.is("1 countPrefix", x.countPrefix(), 0);
        Due.is("1 removeRange", x.removeRange(), 0);
        Due.thrown("1 get", NoSuchElementException.class, x::get);
        for (int cursor = 0; cursor < 4; cursor++) {
            Due.is("1 cursor closed", x.close(cursor), false);
        }
        Due.thrown("1 no snapshot", IllegalStateException.class, x::restoreSnapshot);
        Due.is("1 capacity", x.setCapacity(96), 96);
        Due.is("1 empty load list", x.load(100), 1);
    }

    private static void newObjectsAreApart() {
        FrontCodedIndex x = new FrontCodedIndex();
        FrontCodedIndex y = new FrontCodedIndex();
        Keys.put(x, "a", 1);
        x.open(0);
        x.saveSnapshot();
        x.queue(2);
        Due.is("1 other size", y.size(), 0);
        Due.is("1 other key", y.swapBound(), 0);
        Due.is("1 other cursor", y.close(0), false);
        Due.thrown("1 other snapshot", IllegalStateException.class, y::restoreSnapshot);
        Due.is("1 other load list", y.queue(7), 1);
    }

    private static void feed() {
        FrontCodedIndex x = new FrontCodedIndex();
        Due.is("2 least byte", x.feed(0), 1);
        Due.is("2 greatest byte", x.feed(127), 2);
        Due.thrown("2 below", IllegalArgumentException.class, () -> x.feed(-1));
        Due.thrown("2 above", IllegalArgumentException.class, () -> x.feed(128));
        Due.thrown("2 far below", IllegalArgumentException.class, () -> x.feed(Integer.MIN_VALUE));
        for (int length = 3; length <= 12; length++) {
            Due.is("2 length", x.feed(length), length);
        }
        Due.thrown("2 full", IllegalStateException.class, () -> x.feed(1));
        Due.thrown("2 full and above", IllegalArgumentException.class, () -> x.feed(128));
        Due.is("2 bytes", x.keyByte(0) * 1000000 + x.keyByte(1) * 1000 + x.keyByte(11), 127012);
        Due.is("2 unchanged", x.cutKey(12), 12);
    }

    private static void setKey() {
        FrontCodedIndex x = new FrontCodedIndex();
        Due.is("3 no zeros", x.setKey(0x010203L, 3), 0);
        Due.is("3 order", x.keyByte(0) * 100 + x.keyByte(1) * 10 + x.keyByte(2), 123);
        Due.is("3 zeros", x.setKey(0x0100000200L, 5), 3);
        Due.is("3 highest bits", x.setKey(0x80FF7F81L, 4), 1);
        Due.is("3 bit ignored", x.keyByte(0), 0);
        Due.is("3 bit ignored", x.keyByte(1), 127);
        Due.is("3 bit ignored", x.keyByte(3), 1);
        Due.is("3 higher bytes ignored", x.setKey(0x0505050100L, 2), 1);
        Due.is("3 only two", x.cutKey(2), 2);
        Due.is("3 eight", x.setKey(-1L, 8), 0);
        Due.is("3 eight bytes", x.keyByte(0) + x.keyByte(7), 254);
        Due.is("3 all zeros", x.setKey(Long.MIN_VALUE, 8), 8);
        Due.thrown("3 negative", IllegalArgumentException.class, () -> x.setKey(1, -1));
        Due.thrown("3 nine", IllegalArgumentException.class, () -> x.setKey(1, 9));
        Due.thrown("3 far", IllegalArgumentException.class, () -> x.setKey(1, Integer.MAX_VALUE));
        Due.is("3 unchanged", x.cutKey(8), 8);
        Due.is("3 empty", x.setKey(77, 0), 0);
        Due.is("3 empty", x.cutKey(0), 0);
    }

    private static void cutKey() {
        FrontCodedIndex x = new FrontCodedIndex();
        Due.thrown("4 empty", IllegalArgumentException.class, () -> x.cutKey(1));
        Keys.set(x, "abcdefghijkl");
        Due.is("4 nothing cut", x.cutKey(12), 12);
        Due.thrown("4 above", IllegalArgumentException.class, () -> x.cutKey(13));
        Due.thrown("4 negative", IllegalArgumentException.class, () -> x.cutKey(-1));
        Due.is("4 cut", x.cutKey(5), 12);
        Due.is("4 first bytes remain", Keys.get(x), "abcde");
        Due.is("4 to none", x.cutKey(0), 5);
        Due.is("4 none", Keys.get(x), "");
    }

    private static void keyByte() {
        FrontCodedIndex x = new FrontCodedIndex();
        Due.thrown("5 empty", IndexOutOfBoundsException.class, () -> x.keyByte(0));
        Keys.set(x, "xyz");
        Due.is("5 first", x.keyByte(0), 'x');
        Due.is("5 last", x.keyByte(2), 'z');
        Due.thrown("5 behind", IndexOutOfBoundsException.class, () -> x.keyByte(3));
        Due.thrown("5 negative", IndexOutOfBoundsException.class, () -> x.keyByte(-1));
        Due.thrown("5 least", IndexOutOfBoundsException.class, () -> x.keyByte(Integer.MIN_VALUE));
    }

    private static void swapBound() {
        FrontCodedIndex x = new FrontCodedIndex();
        Keys.set(x, "abc");
        Due.is("6 empty bound", x.swapBound(), 0);
        Keys.set(x, "de");
        Due.is("6 back", x.swapBound(), 3);
        Due.is("6 key", Keys.get(x), "abc");
        x.feed('d');
        Due.is("6 bound is its own", x.swapBound(), 2);
        Due.is("6 bound", Keys.get(x), "de");
        Due.is("6 grown", x.swapBound(), 4);
    }
}
