/** The answers that README.md tells under "Use"; whoever changes one changes the other. */
public final class ReadmeTest {
    public static void main(String[] args) {
        keysAndEntries();
        ranges();
        cursors();
        pages();
        loading();
        Due.end("ReadmeTest");
    }

    private static FrontCodedIndex index() {
        FrontCodedIndex index = new FrontCodedIndex();
        index.setKey(0x6162L, 2);
        index.put(7);
        index.feed('c');
        index.put(8);
        return index;
    }

    private static void keysAndEntries() {
        FrontCodedIndex index = new FrontCodedIndex();
        Due.is("3 zero bytes in ab", index.setKey(0x6162L, 2), 0);
        Due.is("8 an entry was added", index.put(7), true);
        Due.is("2 now abc", index.feed('c'), 3);
        Due.is("15 ab is the greatest not above it", index.floor(), 7);
        Due.is("the key", Keys.get(index), "ab");
        Due.is("2 abc again", index.feed('c'), 3);
        Due.is("8 the second entry", index.put(8), true);
        Due.is("8 a new value", index.put(9), false);
        Due.is("9 the new value", index.get(), 9);
    }

    private static void ranges() {
        FrontCodedIndex index = index();
        Due.is("3 a", index.setKey(0x61L, 1), 0);
        Due.is("16 both begin with a", index.countPrefix(), 2);
        index.swapBound();
        index.setKey(0x616263L, 3);
        Due.is("11 ab alone", index.removeRange(), 1);
        Due.is("12 abc is left", index.size(), 1);
    }

    private static void cursors() {
        FrontCodedIndex index = index();
        index.cutKey(0);
        Due.is("24 at ab", index.open(0), true);
        Due.is("28 its value", index.current(0), 7);
        Due.is("29 removed", index.removeAt(0), 7);
        Due.is("28 abc is next", index.current(0), 8);
        Due.is("26 at the end", index.advance(0), false);
    }

    private static void pages() {
        FrontCodedIndex index = index();
        Due.is("17 a leaf alone", index.height(), 1);
        Due.is("20 its entries", index.pageFanout(0, 0), 2);
        Due.is("19 8 + (7 + 2) + (7 + 1)", index.pageSize(0, 0), 25);
    }

    private static void loading() {
        FrontCodedIndex index = index();
        Due.is("33 entries saved", index.saveSnapshot(), 2);
        index.setKey(0x78L, 1);
        Due.is("31 the list", index.queue(1), 1);
        Due.is("32 one page", index.load(75), 1);
        Due.is("9 the loaded entry", index.get(), 1);
        Due.is("34 entries restored", index.restoreSnapshot(), 2);
    }
}
