import java.util.NoSuchElementException;

/** The boundary cases of promises 24 to 30 and of "Cursors" in the document's description. */
public final class CursorEdgeTest {
    public static void main(String[] args) {
        openInEmptyTree();
        openBeforeFirstAndBehindLast();
        openAtEqualAndBetween();
        openOnceMore();
        openEachOfFour();
        openBehindEmptyLeaf();
        closeClosed();
        closeAtTheEnd();
        closeOneOfTwo();
        advanceFromLast();
        advanceOverLeaves();
        retreatFromTheEnd();
        retreatToFirst();
        retreatOverLeaves();
        currentLeavesPlace();
        currentOfEmptyAndLongestKey();
        removeAtLast();
        removeAtOnly();
        removeAtMovesAllAtIt();
        removedByKey();
        removedByRange();
        removedAndAddedAgain();
        endStaysWhenLastIsAdded();
        endStaysInEmptyTree();
        endStaysWhenLastIsRemoved();
        entryBeforeTheFirstIsAdded();
        staysWhilePagesAreSplit();
        staysWhileEntriesAreGiven();
        staysWhilePagesAreMerged();
        distanceToItself();
        distanceFromFirstToEnd();
        distanceInEmptyTree();
        Due.end("CursorEdgeTest");
    }

    private static FrontCodedIndex with(String list) {
        FrontCodedIndex x = new FrontCodedIndex();
        x.setCapacity(64);
        Keys.putAll(x, list);
        return x;
    }

    private static void atEnd(String what, FrontCodedIndex x, int cursor) {
        Due.thrown(what, NoSuchElementException.class, () -> x.current(cursor));
    }

    private static void at(String what, FrontCodedIndex x, int cursor, String key) {
        x.current(cursor);
        Due.is(what, Keys.get(x), key);
    }

    /** "or at the end if there is none": there is none in an empty tree. */
    private static void openInEmptyTree() {
        FrontCodedIndex x = new FrontCodedIndex();
        Due.is("24 at the end", x.open(0), false);
        atEnd("24 at the end", x, 0);
        Due.is("24 but open", x.close(0), true);
    }

    /** "at the lowest entry whose key is not less than the key, or at the end if there is none". */
    private static void openBeforeFirstAndBehindLast() {
        FrontCodedIndex x = with("b d");
        Due.is("24 empty key", Keys.open(x, 0, ""), true);
        at("24 the first", x, 0, "b");
        Due.is("24 behind the last", Keys.open(x, 0, "d\0"), false);
        atEnd("24 the end", x, 0);
    }

    /** "not less than the key": an equal one is it, and a greater one if there is no equal one. */
    private static void openAtEqualAndBetween() {
        FrontCodedIndex x = with("b d");
        Due.is("24 equal to the last", Keys.open(x, 0, "d"), true);
        at("24 the last", x, 0, "d");
        Due.is("24 just behind the first", Keys.open(x, 0, "b\0"), true);
        at("24 the next", x, 0, "d");
        Due.is("24 equal to the first", Keys.open(x, 0, "b"), true);
        at("24 the first", x, 0, "b");
    }

    /** "Opens a cursor": also one that is open, and elsewhere. */
    private static void openOnceMore() {
        FrontCodedIndex x = with("a b c");
        Keys.open(x, 0, "c");
        Keys.open(x, 0, "a");
        at("24 moved", x, 0, "a");
        Due.is("25 closed once", x.close(0), true);
        Due.is("25 not twice", x.close(0), false);
    }

    /** "There are four cursors, numbered 0 to 3." */
    private static void openEachOfFour() {
        FrontCodedIndex x = with("a b c d");
        for (int cursor = 0; cursor < 4; cursor++) {
            Due.is("24 opened " + cursor, Keys.open(x, cursor, String.valueOf((char) ('a' + cursor))), true);
        }
        for (int cursor = 0; cursor < 4; cursor++) {
            Due.is("28 each at its own entry", x.current(cursor), cursor);
        }
    }

    /** An empty leaf behind the last entry holds no entry to be at. */
    private static void openBehindEmptyLeaf() {
        FrontCodedIndex x = Keys.loaded(64, 75, Keys.signs('a', 26));
        Keys.remove(x, "z");
        Due.is("20 the last leaf is empty", x.pageFanout(2, 5), 0);
        Due.is("24 none in it", Keys.open(x, 0, "z"), false);
        Due.is("24 the last before it", Keys.open(x, 1, "y"), true);
        Due.is("26 the end is next", x.advance(1), false);
        Due.is("27 and back", x.retreat(1), 24);
    }

    /** "Returns true if it was not closed before." */
    private static void closeClosed() {
        FrontCodedIndex x = with("a");
        Due.is("25 at first", x.close(3), false);
        x.open(3);
        Due.is("25 open", x.close(3), true);
        Due.is("25 closed", x.close(3), false);
        x.load(100);
        Due.is("25 closed still", x.close(3), false);
    }

    /** "Returns true if it was not closed before.": at the end it isn't. */
    private static void closeAtTheEnd() {
        FrontCodedIndex x = with("a");
        Keys.open(x, 0, "z");
        Due.is("25 at the end", x.close(0), true);
        Due.thrown("26 closed", IllegalStateException.class, () -> x.advance(0) ? 1 : 0);
    }

    /** "Closes a cursor.": another one at the same entry stays open. */
    private static void closeOneOfTwo() {
        FrontCodedIndex x = with("a b");
        Keys.open(x, 0, "b");
        x.open(3);
        x.close(0);
        Due.is("28 the other", x.current(3), 1);
    }

    /** "or from the last entry to the end": "Returns true if it is at an entry then." */
    private static void advanceFromLast() {
        FrontCodedIndex x = with("a b");
        Keys.open(x, 0, "a");
        Due.is("26 to the last", x.advance(0), true);
        Due.is("26 to the end", x.advance(0), false);
        atEnd("26 at the end", x, 0);
        Due.thrown("26 no further", NoSuchElementException.class, () -> x.advance(0) ? 1 : 0);
        Due.is("27 one back", x.retreat(0), 1);
    }

    /** "Moves a cursor to the next entry", from the last of a leaf to the first of the next leaf. */
    private static void advanceOverLeaves() {
        FrontCodedIndex x = Keys.loaded(64, 40, Keys.signs('a', 9));
        Keys.open(x, 0, "");
        for (int i = 1; i < 9; i++) {
            Due.is("26 at an entry", x.advance(0), true);
            Due.is("28 the next", x.current(0), i);
        }
        Due.is("26 to the end", x.advance(0), false);
    }

    /** "or from the end to the last entry". */
    private static void retreatFromTheEnd() {
        FrontCodedIndex x = with("a b");
        Keys.open(x, 0, "z");
        Due.is("27 the last", x.retreat(0), 1);
        at("28 the last", x, 0, "b");
    }

    /** "Throws NoSuchElementException if there is no previous entry": the first is reached. */
    private static void retreatToFirst() {
        FrontCodedIndex x = with("a b");
        Keys.open(x, 0, "b");
        Due.is("27 the first", x.retreat(0), 0);
        Due.thrown("27 none before", NoSuchElementException.class, () -> x.retreat(0));
        at("27 still the first", x, 0, "a");
        Keys.put(x, "A", 9);
        Due.is("27 one that was added", x.retreat(0), 9);
    }

    /** "Moves a cursor to the previous entry", from the first of a leaf to the last of the one before. */
    private static void retreatOverLeaves() {
        FrontCodedIndex x = Keys.loaded(64, 40, Keys.signs('a', 9));
        Keys.open(x, 0, "z");
        for (int i = 8; i >= 0; i--) {
            Due.is("27 the previous", x.retreat(0), i);
        }
    }

    /** "Sets the key to that of the entry at which a cursor is.", as often as it is asked. */
    private static void currentLeavesPlace() {
        FrontCodedIndex x = with("a b");
        Keys.open(x, 0, "b");
        Keys.set(x, "abcdefghijkl");
        Due.is("28 value", x.current(0), 1);
        Due.is("28 key", Keys.get(x), "b");
        Due.is("28 the same once more", x.current(0), 1);
    }

    /** "A key is a sequence of 0 to 12 bytes". */
    private static void currentOfEmptyAndLongestKey() {
        FrontCodedIndex x = new FrontCodedIndex();
        x.put(Integer.MIN_VALUE);
        x.open(0);
        Keys.put(x, "abcdefghijkl", Integer.MAX_VALUE);
        x.open(1);
        Due.is("28 of the empty key", x.current(0), Integer.MIN_VALUE);
        Due.is("28 the empty key", x.cutKey(0), 0);
        Due.is("28 of the longest", x.current(1), Integer.MAX_VALUE);
        Due.is("28 the longest", x.cutKey(0), 12);
    }

    /** "If its entry is removed, it is at the next entry then, or at the end." */
    private static void removeAtLast() {
        FrontCodedIndex x = with("a b");
        Keys.open(x, 0, "b");
        Due.is("29 value", x.removeAt(0), 1);
        atEnd("29 at the end", x, 0);
        Due.thrown("29 nothing there", NoSuchElementException.class, () -> x.removeAt(0));
        Due.is("27 the one before", x.retreat(0), 0);
        Due.is("29 it too", x.removeAt(0), 0);
        Due.is("12 none left", x.size(), 0);
    }

    /** "Removes the entry at which a cursor is.", where there is no other. */
    private static void removeAtOnly() {
        FrontCodedIndex x = with("a");
        x.open(2);
        Due.is("29 value", x.removeAt(2), 0);
        Due.is("29 an empty leaf", Keys.tree(x), "8/0");
        atEnd("29 at the end", x, 2);
        Due.thrown("27 none before", NoSuchElementException.class, () -> x.retreat(2));
    }

    /** "If its entry is removed, it is at the next entry then": each of the cursors at it. */
    private static void removeAtMovesAllAtIt() {
        FrontCodedIndex x = with("a b c");
        for (int cursor = 0; cursor < 3; cursor++) {
            Keys.open(x, cursor, "b");
        }
        Keys.open(x, 3, "c");
        x.removeAt(1);
        for (int cursor = 0; cursor < 4; cursor++) {
            Due.is("29 at the next", x.current(cursor), 2);
        }
        x.removeAt(3);
        for (int cursor = 0; cursor < 4; cursor++) {
            atEnd("29 at the end", x, cursor);
        }
    }

    /** "If its entry is removed", whichever call removes it: remove. */
    private static void removedByKey() {
        FrontCodedIndex x = with("a b c");
        Keys.open(x, 0, "a");
        Keys.open(x, 1, "b");
        Keys.open(x, 2, "c");
        Keys.remove(x, "b");
        at("10 the one before stays", x, 0, "a");
        at("10 at the next", x, 1, "c");
        at("10 the one behind stays", x, 2, "c");
        Keys.remove(x, "c");
        at("10 the first stays", x, 0, "a");
        atEnd("10 at the end", x, 1);
        atEnd("10 at the end", x, 2);
    }

    /** "If its entry is removed", whichever call removes it: removeRange, and the next one with it. */
    private static void removedByRange() {
        FrontCodedIndex x = Keys.loaded(64, 40, Keys.signs('a', 9));
        Keys.open(x, 0, "b");
        Keys.open(x, 1, "d");
        Keys.open(x, 2, "g");
        Keys.open(x, 3, "a");
        Keys.range(x, "b", "g");
        x.removeRange();
        at("11 the first of the range", x, 0, "g");
        at("11 the middle of it", x, 1, "g");
        at("11 its end stays", x, 2, "g");
        at("11 the one before stays", x, 3, "a");
        Keys.range(x, "", "z");
        x.removeRange();
        for (int cursor = 0; cursor < 4; cursor++) {
            atEnd("11 all are removed", x, cursor);
        }
    }

    /** "it is at the next entry then": it does not come back when the key is added again. */
    private static void removedAndAddedAgain() {
        FrontCodedIndex x = with("a b c");
        Keys.open(x, 0, "b");
        x.removeAt(0);
        Keys.put(x, "b", 9);
        at("8 at the next still", x, 0, "c");
        Due.is("27 it is before", x.retreat(0), 9);
    }

    /** "A cursor at the end remains there when entries are added.": behind the last one, too. */
    private static void endStaysWhenLastIsAdded() {
        FrontCodedIndex x = with("a b");
        Keys.open(x, 0, "z");
        Keys.put(x, "c", 2);
        atEnd("8 at the end", x, 0);
        Keys.put(x, "A", 3);
        atEnd("8 at the end", x, 0);
        Due.is("27 the last is the added one", x.retreat(0), 2);
    }

    /** "A cursor at the end remains there when entries are added.": the first ones, too. */
    private static void endStaysInEmptyTree() {
        FrontCodedIndex x = new FrontCodedIndex();
        x.open(0);
        x.put(1);
        atEnd("8 at the end", x, 0);
        Keys.putAll(x, Keys.signs('a', 20));
        atEnd("8 at the end", x, 0);
        Keys.open(x, 1, "");
        Due.is("30 behind all", x.distance(1, 0), 21);
    }

    /** A cursor at the end is behind all entries, whichever of them are removed. */
    private static void endStaysWhenLastIsRemoved() {
        FrontCodedIndex x = with("a b c");
        Keys.open(x, 0, "z");
        Keys.remove(x, "c");
        atEnd("10 at the end", x, 0);
        Keys.remove(x, "a");
        atEnd("10 at the end", x, 0);
        Due.is("27 the last left", x.retreat(0), 1);
    }

    /** "A cursor remains at its entry": an entry that is added just before it is not its. */
    private static void entryBeforeTheFirstIsAdded() {
        FrontCodedIndex x = with("b d");
        Keys.open(x, 0, "b");
        Keys.open(x, 1, "d");
        Keys.putAll(x, "a c");
        at("8 the first", x, 0, "b");
        at("8 the second", x, 1, "d");
        Keys.put(x, "b\0", 1);
        at("8 behind it", x, 0, "b");
    }

    private static FrontCodedIndex marked(FrontCodedIndex x, String list) {
        String[] keys = list.split(" ");
        for (int cursor = 0; cursor < keys.length; cursor++) {
            Keys.open(x, cursor, keys[cursor]);
        }
        return x;
    }

    private static void stay(String what, FrontCodedIndex x, String list) {
        String[] keys = list.split(" ");
        for (int cursor = 0; cursor < keys.length; cursor++) {
            at(what, x, cursor, keys[cursor]);
        }
    }

    /** "A cursor remains at its entry, whatever happens to pages.": the leaf and its parent are split. */
    private static void staysWhilePagesAreSplit() {
        FrontCodedIndex x = marked(Keys.loaded(64, 100, Keys.signs('0', 49)), "0 N O `");
        Due.is("8 before", x.height(), 2);
        Keys.put(x, "MM", 1);
        Due.is("8 split", x.height(), 3);
        stay("8 after splits", x, "0 N O `");
    }

    /** "A cursor remains at its entry, whatever happens to pages.": its entry is given to a sibling. */
    private static void staysWhileEntriesAreGiven() {
        FrontCodedIndex x = marked(Keys.loaded(64, 100, Keys.signs('a', 18)), "g h n o");
        Keys.put(x, "aa", 1);
        Due.is("8 split", x.statistic(2), 1);
        Keys.put(x, "nn", 1);
        Due.is("8 given", x.statistic(3), 1);
        stay("8 after giving", x, "g h n o");
    }

    /** "A cursor remains at its entry, whatever happens to pages.": pages are merged on each level. */
    private static void staysWhilePagesAreMerged() {
        FrontCodedIndex x = marked(Keys.loaded(64, 40, Keys.signs('A', 32)), "B C D `");
        Keys.remove(x, "A");
        Due.is("10 four merges", x.statistic(4), 4);
        stay("10 after merges", x, "B C D `");
    }

    /** "the difference of the numbers of entries that come before them": none of a cursor itself. */
    private static void distanceToItself() {
        FrontCodedIndex x = with("a b c");
        Keys.open(x, 0, "b");
        Keys.open(x, 1, "b");
        Due.is("30 itself", x.distance(0, 0), 0);
        Due.is("30 another at the same entry", x.distance(0, 1), 0);
        Keys.open(x, 2, "z");
        Keys.open(x, 3, "z");
        Due.is("30 both at the end", x.distance(2, 3), 0);
    }

    /**
     * "the number of entries before the second one minus the number of entries before the first one": of
     * either sign.
     */
    private static void distanceFromFirstToEnd() {
        FrontCodedIndex x = with("a b c");
        Keys.open(x, 0, "");
        Keys.open(x, 3, "z");
        Due.is("30 all", x.distance(0, 3), 3);
        Due.is("30 back", x.distance(3, 0), -3);
        Keys.open(x, 3, "c");
        Due.is("30 to the last", x.distance(0, 3), 2);
    }

    /** No entries come before a cursor in an empty tree. */
    private static void distanceInEmptyTree() {
        FrontCodedIndex x = new FrontCodedIndex();
        x.open(0);
        x.open(1);
        Due.is("30 none", x.distance(0, 1), 0);
        Due.thrown("30 one is closed", IllegalStateException.class, () -> x.distance(0, 2));
    }
}
