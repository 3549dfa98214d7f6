/** The boundary cases of promises 1 to 6 and of "Keys": a new object, and the key buffer. */
public final class KeyEdgeTest {
    public static void main(String[] args) {
        treeAtFirst();
        buffersAtFirst();
        capacityAtFirst();
        cursorsAtFirst();
        loadListAtFirst();
        countsAtFirst();
        leastAndGreatestByte();
        feedFromEmptyToFull();
        feedAfterFull();
        setKeyToNone();
        setKeyToEight();
        setKeyIgnoresHighestBits();
        setKeyCountsZeros();
        setKeyIgnoresHigherBytes();
        setKeyReplacesLongerKey();
        cutKeyToAll();
        cutKeyToNone();
        keyByteFirstAndLast();
        swapOfEmptyBuffers();
        swapOfFullBuffer();
        prefixComesBefore();
        leastByteComesBehindTheEnd();
        greatestByteComesLast();
        Due.end("KeyEdgeTest");
    }

    /** "Creates an index with an empty tree." "At first the tree is one empty leaf." */
    private static void treeAtFirst() {
        FrontCodedIndex x = new FrontCodedIndex();
        Due.is("1 one level", x.height(), 1);
        Due.is("1 one empty leaf", Keys.tree(x), "8/0");
        Due.is("1 no entry", x.size(), 0);
    }

    /** "There is a key buffer and a bound buffer; each holds a key, the empty one at first." */
    private static void buffersAtFirst() {
        FrontCodedIndex x = new FrontCodedIndex();
        Due.is("1 empty key", x.cutKey(0), 0);
        Due.is("1 empty bound", x.swapBound(), 0);
        Due.is("1 empty key again", x.swapBound(), 0);
    }

    /** "The capacity P is from 64 to 200 and 96 at first." */
    private static void capacityAtFirst() {
        Due.is("1 told", new FrontCodedIndex().setCapacity(64), 96);
        FrontCodedIndex x = new FrontCodedIndex();
        Keys.putAll(x, Keys.signs('a', 11));
        Due.is("1 a leaf of 96", Keys.tree(x), "96/11");
        Keys.put(x, "l", 1);
        Due.is("1 none of 104", Keys.tree(x), "20/2 | 56/6 56/6");
    }

    /** "A cursor is closed, as all are at first". */
    private static void cursorsAtFirst() {
        FrontCodedIndex x = new FrontCodedIndex();
        for (int cursor = 0; cursor < 4; cursor++) {
            Due.is("1 closed " + cursor, x.close(cursor), false);
        }
    }

    /** "There is a load list of entries, which is empty at first." */
    private static void loadListAtFirst() {
        FrontCodedIndex x = new FrontCodedIndex();
        Due.is("1 one page", x.load(100), 1);
        Due.is("1 nothing loaded", x.size(), 0);
        Due.is("1 first of the list", new FrontCodedIndex().queue(1), 1);
    }

    /** "2 the number of splits so far, 3 of redistributions so far, 4 of merges so far". */
    private static void countsAtFirst() {
        FrontCodedIndex x = new FrontCodedIndex();
        for (int what = 2; what <= 4; what++) {
            Due.is("1 statistic " + what, x.statistic(what), 0);
        }
        Due.is("1 sum of sizes", x.statistic(0), 8);
        Due.is("1 number of pages", x.statistic(1), 1);
    }

    /** "A key is a sequence of 0 to 12 bytes, each from 0 to 127." */
    private static void leastAndGreatestByte() {
        FrontCodedIndex x = new FrontCodedIndex();
        Due.is("2 byte 0", x.feed(0), 1);
        Due.is("2 byte 0", x.keyByte(0), 0);
        Due.is("2 byte 127", x.feed(127), 2);
        Due.is("2 byte 127", x.keyByte(1), 127);
    }

    /** "Returns the length of the key.", from the first byte of an empty key to the twelfth. */
    private static void feedFromEmptyToFull() {
        FrontCodedIndex x = new FrontCodedIndex();
        for (int length = 1; length <= 12; length++) {
            Due.is("2 length", x.feed(100 + length), length);
        }
        for (int i = 0; i < 12; i++) {
            Due.is("2 byte " + i, x.keyByte(i), 101 + i);
        }
    }

    /** "Throws IllegalStateException if the key has 12 bytes", and no longer when it has fewer. */
    private static void feedAfterFull() {
        FrontCodedIndex x = new FrontCodedIndex();
        Keys.set(x, "abcdefghijkl");
        Due.thrown("2 full", IllegalStateException.class, () -> x.feed(0));
        x.cutKey(11);
        Due.is("2 room for one", x.feed(0), 12);
        Due.thrown("2 full again", IllegalStateException.class, () -> x.feed(0));
        x.swapBound();
        Due.is("2 the other buffer has room", x.feed(0), 1);
    }

    /** "Throws IllegalArgumentException if n is not from 0 to 8": 0 is allowed. */
    private static void setKeyToNone() {
        FrontCodedIndex x = new FrontCodedIndex();
        Keys.set(x, "abc");
        Due.is("3 no zero bytes", x.setKey(0x0000L, 0), 0);
        Due.is("3 no bytes", x.cutKey(0), 0);
    }

    /** "Throws IllegalArgumentException if n is not from 0 to 8": 8 is allowed. */
    private static void setKeyToEight() {
        FrontCodedIndex x = new FrontCodedIndex();
        Due.is("3 one zero byte", x.setKey(0x0102030405060007L, 8), 1);
        int[] bytes = {1, 2, 3, 4, 5, 6, 0, 7};
        for (int i = 0; i < 8; i++) {
            Due.is("3 byte " + i, x.keyByte(i), bytes[i]);
        }
        Due.is("3 eight bytes", x.cutKey(8), 8);
    }

    /** "the highest bit of each byte is ignored", in the first byte of a negative number as well. */
    private static void setKeyIgnoresHighestBits() {
        FrontCodedIndex x = new FrontCodedIndex();
        Due.is("3 all bits", x.setKey(-1L, 8), 0);
        for (int i = 0; i < 8; i++) {
            Due.is("3 byte " + i, x.keyByte(i), 127);
        }
        Due.is("3 negative number", x.setKey(0x8100000000000082L, 8), 6);
        Due.is("3 first byte", x.keyByte(0), 1);
        Due.is("3 last byte", x.keyByte(7), 2);
    }

    /** "Returns the number of zero bytes in the key.": a byte of the highest bit alone is one. */
    private static void setKeyCountsZeros() {
        FrontCodedIndex x = new FrontCodedIndex();
        Due.is("3 one", x.setKey(0x80L, 1), 1);
        Due.is("3 all", x.setKey(Long.MIN_VALUE, 8), 8);
        Due.is("3 first and last", x.setKey(0x000100L, 3), 2);
        Due.is("3 none", x.setKey(0x7F01L, 2), 0);
    }

    /** "Sets the key to the lowest n bytes of a number". */
    private static void setKeyIgnoresHigherBytes() {
        FrontCodedIndex x = new FrontCodedIndex();
        Due.is("3 zeros above don't count", x.setKey(0x00000001L, 1), 0);
        Due.is("3 the last byte", x.keyByte(0), 1);
        Due.is("3 one byte", x.cutKey(1), 1);
        Due.is("3 bytes above are left out", x.setKey(0x6162636465666768L, 7), 0);
        Due.is("3 seven bytes", Keys.get(x), "bcdefgh");
    }

    /** A longer key before leaves nothing behind the new one. */
    private static void setKeyReplacesLongerKey() {
        FrontCodedIndex x = new FrontCodedIndex();
        Keys.set(x, "abcdefghijkl");
        x.setKey('z', 1);
        Due.is("3 one byte", Keys.get(x), "z");
        Due.is("3 fed behind it", x.feed('y'), 2);
        Due.is("3 two bytes", Keys.get(x), "zy");
    }

    /** "if n is negative or greater than the length of the key": the length itself is allowed. */
    private static void cutKeyToAll() {
        FrontCodedIndex x = new FrontCodedIndex();
        Keys.set(x, "abcdefghijkl");
        Due.is("4 nothing removed", x.cutKey(12), 12);
        Due.is("4 the whole key", Keys.get(x), "abcdefghijkl");
        Due.is("4 one removed", x.cutKey(11), 12);
        Due.is("4 eleven remain", Keys.get(x), "abcdefghijk");
    }

    /** "if n is negative or greater than the length of the key": 0 is allowed. */
    private static void cutKeyToNone() {
        FrontCodedIndex x = new FrontCodedIndex();
        Due.is("4 empty key", x.cutKey(0), 0);
        Keys.set(x, "a");
        Due.is("4 one byte", x.cutKey(0), 1);
        Due.is("4 none remains", x.cutKey(0), 0);
    }

    /** "the position, from 0": the first and the last. */
    private static void keyByteFirstAndLast() {
        FrontCodedIndex x = new FrontCodedIndex();
        Keys.set(x, "abcdefghijkl");
        Due.is("5 first", x.keyByte(0), 'a');
        Due.is("5 last", x.keyByte(11), 'l');
        x.cutKey(1);
        Due.is("5 both", x.keyByte(0), 'a');
    }

    /** "Returns the new length of the key.", where both buffers are empty. */
    private static void swapOfEmptyBuffers() {
        FrontCodedIndex x = new FrontCodedIndex();
        Due.is("6 empty", x.swapBound(), 0);
        x.feed('a');
        Due.is("6 empty for a byte", x.swapBound(), 0);
        Due.is("6 the byte", x.swapBound(), 1);
    }

    /** "Returns the new length of the key.", where it is the greatest. */
    private static void swapOfFullBuffer() {
        FrontCodedIndex x = new FrontCodedIndex();
        Keys.set(x, "abcdefghijkl");
        Due.is("6 to the empty one", x.swapBound(), 0);
        Due.is("6 to the full one", x.swapBound(), 12);
        Due.is("6 its bytes", Keys.get(x), "abcdefghijkl");
    }

    /** "a proper prefix of a key comes before it", the empty key before all. */
    private static void prefixComesBefore() {
        FrontCodedIndex x = new FrontCodedIndex();
        x.setCapacity(200);
        for (String key : new String[] {"b", "abcdefghijkl", "ab", "", "abcdefghijk", "a"}) {
            Keys.put(x, key, key.length());
        }
        Due.is("8 order", Keys.all(x), " a ab abcdefghijk abcdefghijkl b");
    }

    /** "Keys are ordered lexicographically": the byte 0 is a byte, and more than none. */
    private static void leastByteComesBehindTheEnd() {
        FrontCodedIndex x = new FrontCodedIndex();
        String[] order = {"", "\0", "\0\0", "\0\1", "\1", "a", "a\0", "a\0\0", "a\0a", "aa"};
        for (int i = order.length - 1; i >= 0; i--) {
            Due.is("8 another key " + i, Keys.put(x, order[i], i), true);
        }
        for (int i = 0; i < order.length; i++) {
            Due.is("14 place " + i, x.select(i), i);
            Due.is("14 key " + i, Keys.get(x), order[i]);
        }
    }

    /** "Keys are ordered lexicographically": the byte 127 is the greatest. */
    private static void greatestByteComesLast() {
        FrontCodedIndex x = new FrontCodedIndex();
        x.setCapacity(200);
        String greatest = "\177\177\177\177\177\177\177\177\177\177\177\177";
        String[] order = {"\0", "~\177", "\177", "\177\0", "\177~", "\177\177", greatest};
        for (int i = order.length - 1; i >= 0; i--) {
            Keys.put(x, order[i], i);
        }
        for (int i = 0; i < order.length; i++) {
            Due.is("14 place " + i, x.select(i), i);
        }
        Due.is("14 the greatest", Keys.get(x), greatest);
    }
}
