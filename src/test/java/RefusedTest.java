import java.util.NoSuchElementException;

/**
 * Each sentence of the document that begins with "Throws", a test each: what has to be refused is
 * refused with the exception named there, and "a method that throws an exception leaves the state
 * unchanged". Then, for each method that names several exceptions: "If several exceptions apply,
 * the one that is documented first is thrown."
 */
public final class RefusedTest {
    private static final Class<? extends RuntimeException> ARGUMENT = IllegalArgumentException.class;
    private static final Class<? extends RuntimeException> STATE = IllegalStateException.class;
    private static final Class<? extends RuntimeException> INDEX = IndexOutOfBoundsException.class;
    private static final Class<? extends RuntimeException> ELEMENT = NoSuchElementException.class;
    private static final int LEAST = Integer.MIN_VALUE;
    private static final int MOST = Integer.MAX_VALUE;
    private static final int[] NO_CURSORS = {-1, 4, LEAST, MOST};

    private interface Change {
        void on(FrontCodedIndex x);
    }

    private interface Call {
        long on(FrontCodedIndex x);
    }

    private interface CursorCall {
        long on(FrontCodedIndex x, int cursor);
    }

    public static void main(String[] args) {
        feed();
        setKey();
        cutKey();
        keyByte();
        setCapacity();
        put();
        get();
        remove();
        select();
        floor();
        pageCount();
        pageSize();
        pageFanout();
        separator();
        statistic();
        open();
        close();
        advance();
        retreat();
        current();
        removeAt();
        distance();
        queue();
        load();
        restoreSnapshot();
        firstDocumentedIsThrown();
        Due.end("RefusedTest");
    }

    /** Two leaves, cursors 0 at the first entry, 1 in the middle, 2 at the end, 3 closed. */
    private static FrontCodedIndex full() {
        FrontCodedIndex x = new FrontCodedIndex();
        x.setCapacity(80);
        Keys.putAll(x, "p q r");
        x.saveSnapshot();
        Keys.range(x, "", "z");
        x.removeRange();
        x.setCapacity(64);
        Keys.putAll(x, "b d f h j l n p r");
        Keys.open(x, 0, "");
        Keys.open(x, 1, "h");
        Keys.open(x, 2, "z");
        Keys.queueAll(x, "k m");
        Keys.set(x, "bo");
        x.swapBound();
        Keys.set(x, "key");
        return x;
    }

    private static void refused(String what, Class<? extends RuntimeException> kind, Change first, Call call) {
        FrontCodedIndex x = full();
        FrontCodedIndex y = full();
        first.on(x);
        first.on(y);
        Due.thrown(what, kind, () -> call.on(x));
        Due.is(what + " leaves the state", State.of(x), State.of(y));
    }

    private static void refused(String what, Class<? extends RuntimeException> kind, Call call) {
        refused(what, kind, x -> { }, call);
    }

    private static long bit(boolean answer) {
        return answer ? 1 : 0;
    }

    private static void feed() {
        for (int b : new int[] {-1, 128, 255, 256, -128, LEAST, MOST}) {
            refused("2 feed: b is not from 0 to 127: " + b, ARGUMENT, x -> x.feed(b));
        }
        Change twelve = x -> Keys.set(x, "abcdefghijkl");
        refused("2 feed: the key has 12 bytes", STATE, twelve, x -> x.feed(1));
    }

    private static void setKey() {
        for (int n : new int[] {-1, 9, LEAST, MOST}) {
            refused("3 setKey: n is not from 0 to 8: " + n, ARGUMENT, x -> x.setKey(0x6162L, n));
        }
    }

    private static void cutKey() {
        for (int n : new int[] {-1, LEAST}) {
            refused("4 cutKey: n is negative: " + n, ARGUMENT, x -> x.cutKey(n));
        }
        for (int n : new int[] {4, 12, MOST}) {
            refused("4 cutKey: n is greater than the length of the key: " + n, ARGUMENT, x -> x.cutKey(n));
        }
        Change none = x -> Keys.set(x, "");
        refused("4 cutKey: n is greater than the length of an empty key", ARGUMENT, none, x -> x.cutKey(1));
    }

    private static void keyByte() {
        for (int i : new int[] {-1, 3, 11, LEAST, MOST}) {
            refused("5 keyByte: there is no such position: " + i, INDEX, x -> x.keyByte(i));
        }
        Change none = x -> Keys.set(x, "");
        refused("5 keyByte: an empty key has no position", INDEX, none, x -> x.keyByte(0));
        Change twelve = x -> Keys.set(x, "abcdefghijkl");
        refused("5 keyByte: the longest key has no position 12", INDEX, twelve, x -> x.keyByte(12));
    }

    private static void setCapacity() {
        Change empty = x -> {
            Keys.range(x, "", "z");
            x.removeRange();
        };
        for (int p : new int[] {63, 201, 0, -64, LEAST, MOST}) {
            refused("7 setCapacity: p is not from 64 to 200: " + p, ARGUMENT, empty, x -> x.setCapacity(p));
        }
        refused("7 setCapacity: the tree has entries", STATE, x -> x.setCapacity(100));
        refused("7 setCapacity: also if it is the same", STATE, x -> x.setCapacity(64));
        Change one = x -> {
            empty.on(x);
            x.put(1);
        };
        refused("7 setCapacity: the tree has one entry", STATE, one, x -> x.setCapacity(100));
        refused("7 setCapacity: loaded entries", STATE, x -> x.load(50), x -> x.setCapacity(100));
        refused("7 setCapacity: restored entries", STATE, x -> x.restoreSnapshot(), x -> x.setCapacity(100));
    }

    /** A run can't have 300 entries in 512 calls, so this goes on behind them. */
    private static void put() {
        Change most = x -> {
            for (int i = 9; i < 300; i++) {
                x.setKey(i / 100 << 8 | i % 100, 2);
                x.put(i);
            }
            x.setKey(0x7F, 1);
        };
        FrontCodedIndex full = full();
        most.on(full);
        Due.is("8 put: 300 entries can be added", full.size(), 300);
        refused("8 put: there are 300 entries", STATE, most, x -> bit(x.put(1)));
    }

    private static void get() {
        for (String key : new String[] {"", "a", "bb", "c", "z"}) {
            refused("9 get: there is no entry with the key: " + key, ELEMENT, x -> Keys.set(x, key), x -> x.get());
        }
        refused("9 get: the tree is empty", ELEMENT, RefusedTest::emptied, x -> x.get());
    }

    private static void remove() {
        for (String key : new String[] {"", "a", "bb", "c", "z"}) {
            refused("10 remove: there is no entry with the key: " + key, ELEMENT, x -> Keys.set(x, key),
                    x -> x.remove());
        }
        refused("10 remove: the tree is empty", ELEMENT, RefusedTest::emptied, x -> x.remove());
        Change removed = x -> Keys.remove(x, "h");
        refused("10 remove: the entry was removed before", ELEMENT, removed, x -> x.remove());
    }

    private static void emptied(FrontCodedIndex x) {
        Keys.range(x, "", "z");
        x.removeRange();
    }

    private static void select() {
        for (int i : new int[] {-1, 9, LEAST, MOST}) {
            refused("14 select: there is no such entry: " + i, INDEX, x -> x.select(i));
        }
        refused("14 select: the tree is empty", INDEX, RefusedTest::emptied, x -> x.select(0));
    }

    private static void floor() {
        for (String key : new String[] {"", "a", "azzzzzzzzzzz"}) {
            refused("15 floor: there is none: " + key, ELEMENT, x -> Keys.set(x, key), x -> x.floor());
        }
        refused("15 floor: the tree is empty", ELEMENT, RefusedTest::emptied, x -> x.floor());
    }

    private static void pageCount() {
        for (int level : new int[] {-1, 2, LEAST, MOST}) {
            refused("18 pageCount: there is no such level: " + level, INDEX, x -> x.pageCount(level));
        }
        refused("18 pageCount: one leaf has no level 1", INDEX, RefusedTest::emptied, x -> x.pageCount(1));
        for (int level : new int[] {-1, 1, 2}) {
            refused("18 pageCount: of a higher tree before: " + level, INDEX, RefusedTest::lowered,
                    x -> x.pageCount(level));
        }
    }

    /** The tree had five levels, and has one leaf now. */
    private static void lowered(FrontCodedIndex x) {
        x.load(100);
        Keys.queueAll(x, Keys.signs('A', 32));
        x.load(40);
        x.load(40);
    }

    private static void pageSize() {
        for (int level : new int[] {-1, 2, LEAST, MOST}) {
            refused("19 pageSize: there is no such level: " + level, INDEX, x -> x.pageSize(level, 0));
        }
        for (int page : new int[] {-1, 2, LEAST, MOST}) {
            refused("19 pageSize: there is no such leaf: " + page, INDEX, x -> x.pageSize(1, page));
        }
        for (int page : new int[] {-1, 1, LEAST, MOST}) {
            refused("19 pageSize: there is one root: " + page, INDEX, x -> x.pageSize(0, page));
        }
        for (int level : new int[] {-1, 1, 2}) {
            refused("19 pageSize: of a higher tree before: " + level, INDEX, RefusedTest::lowered,
                    x -> x.pageSize(level, 0));
        }
    }

    private static void pageFanout() {
        for (int level : new int[] {-1, 2, LEAST, MOST}) {
            refused("20 pageFanout: there is no such level: " + level, INDEX, x -> x.pageFanout(level, 0));
        }
        for (int page : new int[] {-1, 2, LEAST, MOST}) {
            refused("20 pageFanout: there is no such leaf: " + page, INDEX, x -> x.pageFanout(1, page));
        }
        for (int page : new int[] {-1, 1, LEAST, MOST}) {
            refused("20 pageFanout: there is one root: " + page, INDEX, x -> x.pageFanout(0, page));
        }
        for (int level : new int[] {-1, 1, 2}) {
            refused("20 pageFanout: of a higher tree before: " + level, INDEX, RefusedTest::lowered,
                    x -> x.pageFanout(level, 0));
        }
    }

    private static void separator() {
        for (int level : new int[] {-1, 2, LEAST, MOST}) {
            refused("21 separator: there is no such level: " + level, INDEX, x -> x.separator(level, 0, 0));
        }
        for (int page : new int[] {-1, 1, LEAST, MOST}) {
            refused("21 separator: there is no such page: " + page, INDEX, x -> x.separator(0, page, 0));
        }
        for (int level : new int[] {-1, 1, 2}) {
            refused("21 separator: of a higher tree before: " + level, INDEX, RefusedTest::lowered,
                    x -> x.separator(level, 0, 0));
        }
        refused("21 separator: the page is a leaf", ELEMENT, x -> x.separator(1, 0, 0));
        refused("21 separator: the last page is a leaf", ELEMENT, x -> x.separator(1, 1, 0));
        refused("21 separator: the root is a leaf", ELEMENT, RefusedTest::emptied, x -> x.separator(0, 0, 0));
        for (int k : new int[] {-1, 1, LEAST, MOST}) {
            refused("21 separator: the page has no such separator: " + k, ELEMENT, x -> x.separator(0, 0, k));
        }
    }

    private static void statistic() {
        for (int what : new int[] {-1, 5, LEAST, MOST}) {
            refused("22 statistic: what is not valid: " + what, ARGUMENT, x -> x.statistic(what));
        }
    }

    private static void missing(String what, CursorCall call) {
        for (int cursor : NO_CURSORS) {
            refused(what + ": there is no such cursor: " + cursor, ARGUMENT, x -> call.on(x, cursor));
        }
    }

    private static void closed(String what, CursorCall call) {
        refused(what + ": it is closed", STATE, x -> call.on(x, 3));
        refused(what + ": it was closed", STATE, x -> x.close(0), x -> call.on(x, 0));
        refused(what + ": loading closed it", STATE, x -> x.load(100), x -> call.on(x, 1));
        refused(what + ": restoring closed it", STATE, x -> x.restoreSnapshot(), x -> call.on(x, 1));
    }

    private static void atEnd(String what, CursorCall call) {
        refused(what + ": it is at the end", ELEMENT, x -> call.on(x, 2));
        refused(what + ": it came to the end", ELEMENT, x -> Keys.remove(x, "r"), x -> call.on(x, 2));
        Change last = x -> {
            Keys.open(x, 3, "r");
            x.removeAt(3);
        };
        refused(what + ": its entry was the last and is removed", ELEMENT, last, x -> call.on(x, 3));
        refused(what + ": the tree is empty", ELEMENT, RefusedTest::emptied, x -> call.on(x, 0));
    }

    private static void open() {
        missing("24 open", (x, cursor) -> bit(x.open(cursor)));
    }

    private static void close() {
        missing("25 close", (x, cursor) -> bit(x.close(cursor)));
    }

    private static void advance() {
        missing("26 advance", (x, cursor) -> bit(x.advance(cursor)));
        closed("26 advance", (x, cursor) -> bit(x.advance(cursor)));
        atEnd("26 advance", (x, cursor) -> bit(x.advance(cursor)));
    }

    private static void retreat() {
        missing("27 retreat", (x, cursor) -> x.retreat(cursor));
        closed("27 retreat", (x, cursor) -> x.retreat(cursor));
        refused("27 retreat: there is no previous entry", ELEMENT, x -> x.retreat(0));
        refused("27 retreat: the tree is empty", ELEMENT, RefusedTest::emptied, x -> x.retreat(2));
        Change before = x -> Keys.remove(x, "b");
        refused("27 retreat: the entries before are removed", ELEMENT, before, x -> x.retreat(0));
    }

    private static void current() {
        missing("28 current", (x, cursor) -> x.current(cursor));
        closed("28 current", (x, cursor) -> x.current(cursor));
        atEnd("28 current", (x, cursor) -> x.current(cursor));
    }

    private static void removeAt() {
        missing("29 removeAt", (x, cursor) -> x.removeAt(cursor));
        closed("29 removeAt", (x, cursor) -> x.removeAt(cursor));
        atEnd("29 removeAt", (x, cursor) -> x.removeAt(cursor));
    }

    private static void distance() {
        missing("30 distance: the first", (x, cursor) -> x.distance(cursor, 0));
        missing("30 distance: the second", (x, cursor) -> x.distance(0, cursor));
        missing("30 distance: both", (x, cursor) -> x.distance(cursor, cursor));
        closed("30 distance: the first", (x, cursor) -> x.distance(cursor, 2));
        closed("30 distance: the second", (x, cursor) -> x.distance(2, cursor));
        closed("30 distance: both", (x, cursor) -> x.distance(cursor, cursor));
    }

    private static void queue() {
        Change most = x -> {
            Keys.set(x, "");
            x.load(100);
            for (int i = 0; i < 300; i++) {
                x.setKey(i / 100 << 8 | i % 100, 2);
                x.queue(i);
            }
            x.setKey(0x7F, 1);
        };
        FrontCodedIndex full = full();
        most.on(full);
        Due.is("31 queue: 300 entries can be queued", full.load(100) > 1 ? full.size() : 0, 300);
        refused("31 queue: the load list has 300 entries", STATE, most, x -> x.queue(1));
        for (String key : new String[] {"m", "lzz", "", "k", "a"}) {
            refused("31 queue: the key is not greater than the last: " + key, STATE, x -> Keys.set(x, key),
                    x -> x.queue(1));
        }
        Change prefix = x -> {
            Keys.queue(x, "nnn", 1);
            Keys.set(x, "nn");
        };
        refused("31 queue: the key is a proper prefix of the last", STATE, prefix, x -> x.queue(1));
    }

    private static void load() {
        for (int fill : new int[] {39, 101, 0, -1, LEAST, MOST}) {
            refused("32 load: fill is not from 40 to 100: " + fill, ARGUMENT, x -> x.load(fill));
        }
    }

    private static void restoreSnapshot() {
        FrontCodedIndex x = new FrontCodedIndex();
        FrontCodedIndex y = new FrontCodedIndex();
        for (FrontCodedIndex z : new FrontCodedIndex[] {x, y}) {
            Keys.putAll(z, "a b c");
            Keys.open(z, 1, "b");
            Keys.queueAll(z, "c d");
        }
        Due.thrown("34 restoreSnapshot: no snapshot was saved", STATE, () -> x.restoreSnapshot());
        Due.is("34 restoreSnapshot: leaves the state", State.of(x), State.of(y));
    }

    private static void firstDocumentedIsThrown() {
        Change twelve = x -> Keys.set(x, "abcdefghijkl");
        refused("2 feed: the byte goes before the length", ARGUMENT, twelve, x -> x.feed(128));
        refused("7 setCapacity: p goes before the entries", ARGUMENT, x -> x.setCapacity(63));
        refused("7 setCapacity: p goes before the entries", ARGUMENT, x -> x.setCapacity(201));
        refused("21 separator: the level goes before the separator", INDEX, x -> x.separator(2, 0, -1));
        refused("21 separator: the page goes before the leaf", INDEX, x -> x.separator(1, 2, 0));
        refused("21 separator: the page goes before the separator", INDEX, x -> x.separator(0, 1, 7));
        refused("30 distance: the second that is missing before the first that is closed", ARGUMENT,
                x -> x.distance(3, 4));
        refused("30 distance: the first that is missing before the second that is closed", ARGUMENT,
                x -> x.distance(-1, 3));
    }
}
