import java.util.NoSuchElementException;

/** Promises 24 to 30: the cursors. */
public final class CursorTest {
    public static void main(String[] args) {
        missingCursors();
        closedCursors();
        open();
        close();
        advance();
        retreat();
        current();
        removeAt();
        distance();
        stayAtEntries();
        stayAtTheEnd();
        Due.end("CursorTest");
    }

    private static FrontCodedIndex withSigns(String signs) {
        FrontCodedIndex x = new FrontCodedIndex();
        x.setCapacity(64);
        Keys.putSigns(x, signs);
        return x;
    }

    private static void open(FrontCodedIndex x, int cursor, String text) {
        Keys.set(x, text);
        x.open(cursor);
    }

    private static void missingCursors() {
        FrontCodedIndex x = withSigns("a");
        x.open(0);
        Class<? extends RuntimeException> kind = IllegalArgumentException.class;
        for (int cursor : new int[] {-1, 4, Integer.MIN_VALUE, Integer.MAX_VALUE}) {
            Due.thrown("24 missing", kind, () -> x.open(cursor) ? 1 : 0);
            Due.thrown("25 missing", kind, () -> x.close(cursor) ? 1 : 0);
            Due.thrown("26 missing", kind, () -> x.advance(cursor) ? 1 : 0);
            Due.thrown("27 missing", kind, () -> x.retreat(cursor));
            Due.thrown("28 missing", kind, () -> x.current(cursor));
            Due.thrown("29 missing", kind, () -> x.removeAt(cursor));
            Due.thrown("30 missing", kind, () -> x.distance(cursor, 0));
            Due.thrown("30 missing", kind, () -> x.distance(0, cursor));
            Due.thrown("30 closed and missing", kind, () -> x.distance(1, cursor));
            Due.thrown("30 missing and closed", kind, () -> x.distance(cursor, 1));
        }
        Due.is("24 unchanged", x.current(0), 'a');
    }

    private static void closedCursors() {
        FrontCodedIndex x = withSigns("a");
        x.open(0);
        Class<? extends RuntimeException> kind = IllegalStateException.class;
        Due.thrown("26 closed", kind, () -> x.advance(3) ? 1 : 0);
        Due.thrown("27 closed", kind, () -> x.retreat(3));
        Due.thrown("28 closed", kind, () -> x.current(3));
        Due.thrown("29 closed", kind, () -> x.removeAt(3));
        Due.thrown("30 closed", kind, () -> x.distance(3, 0));
        Due.thrown("30 closed", kind, () -> x.distance(0, 3));
        Due.is("29 unchanged", x.size(), 1);
    }

    private static void open() {
        FrontCodedIndex x = withSigns("bd");
        Keys.set(x, "");
        Due.is("24 before all", x.open(3), true);
        Due.is("24 first", x.current(3), 'b');
        Keys.set(x, "b");
        Due.is("24 same key", x.open(3), true);
        Due.is("24 at it", x.current(3), 'b');
        Keys.set(x, "bb");
        Due.is("24 between", x.open(3), true);
        Due.is("24 next", x.current(3), 'd');
        Keys.set(x, "dd");
        Due.is("24 behind all", x.open(3), false);
        Due.thrown("24 end", NoSuchElementException.class, () -> x.current(3));
        Due.is("24 key is left", Keys.get(x), "dd");
        Due.is("24 empty tree", new FrontCodedIndex().open(0), false);
    }

    private static void close() {
        FrontCodedIndex x = withSigns("a");
        Due.is("25 at first", x.close(2), false);
        x.open(2);
        Due.is("25 at an entry", x.close(2), true);
        Due.is("25 again", x.close(2), false);
        open(x, 2, "z");
        x.open(1);
        Due.is("25 at the end", x.close(2), true);
        Due.is("25 the other stays", x.retreat(1), 'a');
    }

    private static void advance() {
        FrontCodedIndex x = withSigns("abcdefghij");
        open(x, 1, "");
        for (char sign = 'b'; sign <= 'j'; sign++) {
            Due.is("26 next", x.advance(1), true);
            Due.is("26 entry", x.current(1), sign);
        }
        Due.is("26 to the end", x.advance(1), false);
        Due.thrown("26 at the end", NoSuchElementException.class, () -> x.advance(1) ? 1 : 0);
        Due.is("26 still at the end", x.retreat(1), 'j');
    }

    private static void retreat() {
        FrontCodedIndex x = withSigns("abcdefghij");
        open(x, 1, "z");
        for (char sign = 'j'; sign >= 'a'; sign--) {
            Due.is("27 previous", x.retreat(1), sign);
        }
        Due.thrown("27 none before", NoSuchElementException.class, () -> x.retreat(1));
        Due.is("27 unchanged", x.current(1), 'a');
        Due.is("27 key of current", Keys.get(x), "a");
        FrontCodedIndex y = new FrontCodedIndex();
        y.open(0);
        Due.thrown("27 end of an empty tree", NoSuchElementException.class, () -> y.retreat(0));
    }

    private static void current() {
        FrontCodedIndex x = withSigns("ab");
        open(x, 0, "b");
        Keys.set(x, "zzz");
        Due.is("28 value", x.current(0), 'b');
        Due.is("28 key", Keys.get(x), "b");
        x.put(1000);
        Due.is("28 changed value", x.current(0), 1000);
        x.advance(0);
        Keys.set(x, "q");
        Due.thrown("28 end", NoSuchElementException.class, () -> x.current(0));
        Due.is("28 key is left", Keys.get(x), "q");
    }

    private static void removeAt() {
        FrontCodedIndex x = withSigns("abcdefghij");
        open(x, 0, "d");
        open(x, 1, "e");
        open(x, 2, "c");
        Keys.set(x, "q");
        Due.is("29 value", x.removeAt(0), 'd');
        Due.is("29 key is left", Keys.get(x), "q");
        Due.is("29 size", x.size(), 9);
        Due.is("29 at the next", x.current(0), 'e');
        Due.is("29 together now", x.distance(0, 1), 0);
        Due.is("29 the one before stays", x.current(2), 'c');
        open(x, 3, "j");
        Due.is("29 last", x.removeAt(3), 'j');
        Due.thrown("29 end", NoSuchElementException.class, () -> x.removeAt(3));
        Due.is("29 rest", Keys.all(x), "a b c e f g h i");
    }

    private static void distance() {
        FrontCodedIndex x = withSigns("abcdefghij");
        open(x, 0, "c");
        open(x, 1, "z");
        open(x, 2, "");
        Due.is("30 to the end", x.distance(0, 1), 8);
        Due.is("30 back", x.distance(1, 0), -8);
        Due.is("30 from the first", x.distance(2, 1), 10);
        Due.is("30 to itself", x.distance(1, 1), 0);
        Keys.put(x, "bb", 1);
        Due.is("30 one more between", x.distance(2, 0), 3);
    }

    private static void stayAtEntries() {
        FrontCodedIndex x = withSigns("bdfhjlnprtv");
        open(x, 0, "b");
        open(x, 1, "l");
        open(x, 2, "v");
        Keys.putSigns(x, "acegikmoqsuwxyz");
        Due.is("24 pages were split", x.statistic(2) > 1, true);
        Due.is("24 first", x.current(0), 'b');
        Due.is("24 middle", x.current(1), 'l');
        Due.is("24 last", x.current(2), 'v');
        Keys.range(x, "c", "l");
        x.removeRange();
        Keys.range(x, "m", "u");
        x.removeRange();
        Due.is("24 pages were merged", x.statistic(4) > 0, true);
        Due.is("24 first", x.current(0), 'b');
        Due.is("24 middle", x.current(1), 'l');
        Due.is("24 last", x.current(2), 'v');
        Keys.range(x, "a", "m");
        x.removeRange();
        Due.is("24 both at the next", x.current(0) * 1000 + x.current(1), 'u' * 1000 + 'u');
    }

    private static void stayAtTheEnd() {
        FrontCodedIndex x = withSigns("ab");
        open(x, 0, "z");
        open(x, 1, "b");
        Keys.put(x, "zz", 7);
        Due.thrown("24 end stays", NoSuchElementException.class, () -> x.current(0));
        Keys.remove(x, "zz");
        Keys.remove(x, "b");
        Due.thrown("24 removed last", NoSuchElementException.class, () -> x.current(1));
        Keys.put(x, "b", 8);
        Due.thrown("24 not back at it", NoSuchElementException.class, () -> x.current(1));
        Due.is("24 it is before", x.retreat(1), 8);
    }
}
