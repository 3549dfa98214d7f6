import java.util.ArrayList;
import java.util.Arrays;
import java.util.NoSuchElementException;

/**
 * A B+ tree index with front-coded pages.
 *
 * The tree is held flat: the entries stand in one sorted row, each tier of pages is a row of the
 * places where its pages end, and each two neighbouring leaves have one separator, whichever inner
 * page holds it. So splitting and merging pages moves boundaries, and never entries or separators.
 */
public final class FrontCodedIndex {
    private static final int MOST_KEY_BYTES = 12;
    private static final int MOST_CODE_BYTES = 8;
    private static final int GREATEST_BYTE = 127;
    private static final int MOST_ENTRIES = 300;
    private static final int FIRST_CAPACITY = 96;
    private static final int LEAST_CAPACITY = 64;
    private static final int GREATEST_CAPACITY = 200;
    private static final int LEAST_FILL = 40;
    private static final int GREATEST_FILL = 100;
    private static final int PAGE_BYTES = 8;
    private static final int ENTRY_BYTES = 7;
    private static final int CHILD_BYTES = 4;
    private static final int SEPARATOR_BYTES = 3;
    private static final int CURSORS = 4;
    private static final int CLOSED = -1;
    private static final int MANTISSA_BITS = 52;
    private static final int EXPONENT_BIAS = 1023;

    private final Tree tree;
    private final Tree snapshot;
    private final Cursors cursors;
    private final Inserter inserter;
    private final Remover remover;
    private final LoadList loadList;
    private boolean snapshotSaved;
    private Key key;
    private Key bound;

    public FrontCodedIndex() {
        tree = new Tree();
        snapshot = new Tree();
        cursors = new Cursors();
        inserter = new Inserter(tree, cursors);
        remover = new Remover(tree, cursors);
        loadList = new LoadList();
        snapshotSaved = false;
        key = new Key(new byte[0]);
        bound = key;
    }

    // ---- keys

    public int feed(int b) throws IllegalArgumentException, IllegalStateException {
        if (b < 0 || b > GREATEST_BYTE) {
            throw new IllegalArgumentException("a byte is from 0 to 127");
        }
        if (key.length() >= MOST_KEY_BYTES) {
            throw new IllegalStateException("the key has 12 bytes");
        }
        key = key.withByte(b);
        return key.length();
    }

    public int setKey(long code, int n) throws IllegalArgumentException {
        if (n < 0 || n > MOST_CODE_BYTES) {
            throw new IllegalArgumentException("a length is from 0 to 8");
        }
        byte[] bytes = new byte[n];
        int zeros = 0;
        long rest = code;
        for (int i = n - 1; i >= 0; i--) {
            bytes[i] = (byte) (rest & GREATEST_BYTE);
            if (bytes[i] == 0) {
                zeros++;
            }
            rest >>>= 8;
        }
        key = new Key(bytes);
        return zeros;
    }

    public int cutKey(int n) throws IllegalArgumentException {
        int length = key.length();
        if (n < 0 || n > length) {
            throw new IllegalArgumentException("the key has not so many bytes");
        }
        key = key.prefix(n);
        return length;
    }

    public int keyByte(int i) throws IndexOutOfBoundsException {
        if (i < 0 || i >= key.length()) {
            throw new IndexOutOfBoundsException("the key has no such position");
        }
        return key.byteAt(i);
    }

    public int swapBound() {
        Key former = key;
        key = bound;
        bound = former;
        return key.length();
    }

    // ---- entries

    public int setCapacity(int p) throws IllegalArgumentException, IllegalStateException {
        if (p < LEAST_CAPACITY || p > GREATEST_CAPACITY) {
            throw new IllegalArgumentException("a capacity is from 64 to 200");
        }
        if (tree.keys.count() > 0) {
            throw new IllegalStateException("the tree has entries");
        }
        int previous = tree.capacity;
        tree.capacity = p;
        return previous;
    }

    public boolean put(int value) throws IllegalStateException {
        int position = tree.keys.find(key);
        if (position >= 0) {
            tree.values.replace(position, value);
            return false;
        }
        if (tree.keys.count() >= MOST_ENTRIES) {
            throw new IllegalStateException("there are 300 entries");
        }
        inserter.insert(key, value);
        return true;
    }

    public int get() throws NoSuchElementException {
        return tree.values.at(positionOfKey());
    }

    public int remove() throws NoSuchElementException {
        return remover.removeEntry(positionOfKey());
    }

    public int removeRange() {
        int first = tree.keys.countBelow(bound, false);
        int entries = tree.keys.countBelow(key, false) - first;
        for (int i = 0; i < entries; i++) {
            remover.removeEntry(first);
        }
        return Math.max(entries, 0);
    }

    public int size() {
        return tree.keys.count();
    }

    public int rank() {
        return tree.keys.countBelow(key, false);
    }

    public int select(int i) throws IndexOutOfBoundsException {
        if (i < 0 || i >= tree.keys.count()) {
            throw new IndexOutOfBoundsException("there is no such entry");
        }
        key = tree.keys.at(i);
        return tree.values.at(i);
    }

    public int floor() throws NoSuchElementException {
        int position = tree.keys.countBelow(key, true) - 1;
        if (position < 0) {
            throw new NoSuchElementException("no key is so small");
        }
        key = tree.keys.at(position);
        return tree.values.at(position);
    }

    public int countPrefix() {
        int first = tree.keys.countBelow(key, false);
        int end = first;
        while (end < tree.keys.count() && tree.keys.at(end).sharedWith(key) == key.length()) {
            end++;
        }
        return end - first;
    }

    // ---- pages

    public int height() {
        return tree.tierTotal;
    }

    public int pageCount(int level) throws IndexOutOfBoundsException {
        refuseMissingLevel(level);
        return tree.pageTotal(tierOf(level));
    }

    public int pageSize(int level, int i) throws IndexOutOfBoundsException {
        refuseMissingPage(level, i);
        return tree.pageBytes(tierOf(level), i);
    }

    public int pageFanout(int level, int i) throws IndexOutOfBoundsException {
        refuseMissingPage(level, i);
        return tree.endOf(tierOf(level), i) - tree.startOf(tierOf(level), i);
    }

    public int separator(int level, int i, int k)
            throws IndexOutOfBoundsException, NoSuchElementException {
        refuseMissingPage(level, i);
        int tier = tierOf(level);
        int children = tree.endOf(tier, i) - tree.startOf(tier, i);
        if (tier == 0 || k < 0 || k >= children - 1) {
            throw new NoSuchElementException("there is no such separator");
        }
        key = tree.separatorAfter(tier - 1, tree.startOf(tier, i) + k);
        return key.length();
    }

    public int statistic(int what) throws IllegalArgumentException {
        if (what == 0) {
            return bytesOfTiers(tree.tierTotal);
        }
        if (what == 1) {
            return tree.allPages();
        }
        if (what == 2) {
            return inserter.splits;
        }
        if (what == 3) {
            return inserter.redistributions;
        }
        if (what == 4) {
            return remover.merges;
        }
        throw new IllegalArgumentException("there is no such statistic");
    }

    public long occupancyBits() {
        double leaves = (double) Math.max(tree.pageTotal(0), 1);
        double capacity = (double) Math.max(tree.capacity, 1);
        return bitsOf((double) bytesOfTiers(1) * 100.0 / leaves / capacity);
    }

    // ---- cursors

    public boolean open(int cursor) throws IllegalArgumentException {
        refuseMissingCursor(cursor);
        int position = tree.keys.countBelow(key, false);
        cursors.place(cursor, position);
        return position < tree.keys.count();
    }

    public boolean close(int cursor) throws IllegalArgumentException {
        refuseMissingCursor(cursor);
        boolean wasOpen = cursors.placeOf(cursor) != CLOSED;
        cursors.place(cursor, CLOSED);
        return wasOpen;
    }

    public boolean advance(int cursor)
            throws IllegalArgumentException, IllegalStateException, NoSuchElementException {
        int position = entryOfCursor(cursor);
        cursors.place(cursor, position + 1);
        return position + 1 < tree.keys.count();
    }

    public int retreat(int cursor)
            throws IllegalArgumentException, IllegalStateException, NoSuchElementException {
        int position = placeOfCursor(cursor);
        if (position <= 0) {
            throw new NoSuchElementException("there is no previous entry");
        }
        cursors.place(cursor, position - 1);
        return tree.values.at(position - 1);
    }

    public int current(int cursor)
            throws IllegalArgumentException, IllegalStateException, NoSuchElementException {
        int position = entryOfCursor(cursor);
        key = tree.keys.at(position);
        return tree.values.at(position);
    }

    public int removeAt(int cursor)
            throws IllegalArgumentException, IllegalStateException, NoSuchElementException {
        return remover.removeEntry(entryOfCursor(cursor));
    }

    public int distance(int from, int to) throws IllegalArgumentException, IllegalStateException {
        // That the second one does not exist goes before the first one's being closed.
        refuseMissingCursor(to);
        int start = placeOfCursor(from);
        return placeOfCursor(to) - start;
    }

    // ---- loading, snapshot

    public int queue(int value) throws IllegalStateException {
        if (loadList.keys.count() >= MOST_ENTRIES) {
            throw new IllegalStateException("the load list has 300 entries");
        }
        if (!loadList.endsBelow(key)) {
            throw new IllegalStateException("the key is not greater than the last one");
        }
        loadList.append(key, value);
        return loadList.keys.count();
    }

    public int load(int fill) throws IllegalArgumentException {
        if (fill < LEAST_FILL || fill > GREATEST_FILL) {
            throw new IllegalArgumentException("a fill factor is from 40 to 100");
        }
        loadList.build(tree, tree.capacity * fill / 100);
        loadList.empty();
        cursors.closeAll();
        return tree.allPages();
    }

    public int saveSnapshot() {
        snapshot.copyFrom(tree);
        snapshotSaved = true;
        return tree.keys.count();
    }

    public int restoreSnapshot() throws IllegalStateException {
        if (!snapshotSaved) {
            throw new IllegalStateException("no snapshot was saved");
        }
        tree.copyFrom(snapshot);
        cursors.closeAll();
        return tree.keys.count();
    }

    // ---- help for the methods above

    private int positionOfKey() {
        int position = tree.keys.find(key);
        if (position < 0) {
            throw new NoSuchElementException("there is no entry with the key");
        }
        return position;
    }

    /** The document counts levels from the root down, the tree counts tiers from the leaves up. */
    private int tierOf(int level) {
        return tree.tierTotal - 1 - level;
    }

    private void refuseMissingLevel(int level) {
        if (level < 0 || level >= tree.tierTotal) {
            throw new IndexOutOfBoundsException("there is no such level");
        }
    }

    private void refuseMissingPage(int level, int page) {
        refuseMissingLevel(level);
        if (page < 0 || page >= tree.pageTotal(tierOf(level))) {
            throw new IndexOutOfBoundsException("there is no such page");
        }
    }

    private void refuseMissingCursor(int cursor) {
        if (cursor < 0 || cursor >= CURSORS) {
            throw new IllegalArgumentException("there is no such cursor");
        }
    }

    private int placeOfCursor(int cursor) {
        refuseMissingCursor(cursor);
        int place = cursors.placeOf(cursor);
        if (place == CLOSED) {
            throw new IllegalStateException("the cursor is closed");
        }
        return place;
    }

    private int entryOfCursor(int cursor) {
        int place = placeOfCursor(cursor);
        if (place >= tree.keys.count()) {
            throw new NoSuchElementException("the cursor is at the end");
        }
        return place;
    }

    private int bytesOfTiers(int tiers) {
        int sum = 0;
        for (int tier = 0; tier < tiers; tier++) {
            for (int page = 0; page < tree.pageTotal(tier); page++) {
                sum += tree.pageBytes(tier, page);
            }
        }
        return sum;
    }

    /**
     * The language has no Double.doubleToLongBits; scaling by 2 is exact, so this is the same. A leaf
     * has 8 bytes at least, and the capacity is 200 at most, so that no occupancy is below 4.
     */
    private static long bitsOf(double occupancy) {
        double scaled = occupancy;
        int exponent = 0;
        while (scaled >= 2.0 && exponent < EXPONENT_BIAS) {
            scaled = scaled / 2.0;
            exponent++;
        }
        long mantissa = (long) ((scaled - 1.0) * (double) (1L << MANTISSA_BITS));
        return ((long) (exponent + EXPONENT_BIAS) << MANTISSA_BITS) | mantissa;
    }

    /** A key; it never changes, so that it can stand in several rows at once. */
    private static final class Key {
        private final byte[] bytes;

        Key(byte[] bytes) {
            this.bytes = bytes;
        }

        int length() {
            return bytes.length;
        }

        /** -1 behind the last byte, so that a proper prefix compares as less. */
        int byteAt(int i) {
            return i >= 0 && i < bytes.length ? bytes[i] : -1;
        }

        int sharedWith(Key other) {
            int shared = 0;
            while (shared < bytes.length && shared < other.bytes.length
                    && bytes[shared] == other.bytes[shared]) {
                shared++;
            }
            return shared;
        }

        int compareWith(Key other) {
            int shared = sharedWith(other);
            return byteAt(shared) - other.byteAt(shared);
        }

        Key prefix(int n) {
            return new Key(Arrays.copyOf(bytes, Math.max(0, Math.min(n, bytes.length))));
        }

        Key withByte(int b) {
            byte[] longer = Arrays.copyOf(bytes, bytes.length + 1);
            longer[bytes.length] = (byte) b;
            return new Key(longer);
        }
    }

    /** A row of keys in their order. */
    private static final class KeyRow {
        private final ArrayList<Key> cells = new ArrayList<Key>();
        private final Key none = new Key(new byte[0]);

        int count() {
            return cells.size();
        }

        Key at(int i) {
            return i >= 0 && i < cells.size() ? cells.get(i) : none;
        }

        void append(Key key) {
            cells.add(key);
        }

        void insert(int i, Key key) {
            if (i >= 0 && i <= cells.size()) {
                cells.add(i, key);
            }
        }

        void replace(int i, Key key) {
            if (i >= 0 && i < cells.size()) {
                cells.set(i, key);
            }
        }

        void delete(int i) {
            if (i >= 0 && i < cells.size()) {
                cells.remove(i);
            }
        }

        void empty() {
            cells.clear();
        }

        void copyFrom(KeyRow other) {
            cells.clear();
            for (int i = 0; i < other.cells.size(); i++) {
                cells.add(other.cells.get(i));
            }
        }

        int countBelow(Key key, boolean orEqual) {
            int low = 0;
            int high = cells.size();
            while (low < high) {
                int middle = (low + high) / 2;
                int order = at(middle).compareWith(key);
                if (order < 0 || (order == 0 && orEqual)) {
                    low = middle + 1;
                } else {
                    high = middle;
                }
            }
            return low;
        }

        /** The position of the key, or -1. */
        int find(Key key) {
            int position = countBelow(key, false);
            boolean found = position < cells.size() && at(position).compareWith(key) == 0;
            return found ? position : -1;
        }
    }

    /** A row of numbers that grows as it needs. */
    private static final class IntRow {
        private static final int FIRST_ROOM = 16;
        private static final int MOST_ROOM = 4096;

        private int[] cells = new int[FIRST_ROOM];
        private int count = 0;

        int count() {
            return count;
        }

        int at(int i) {
            return i >= 0 && i < count && i < cells.length ? cells[i] : 0;
        }

        void append(int value) {
            insert(count, value);
        }

        void insert(int i, int value) {
            if (count >= cells.length && cells.length < MOST_ROOM) {
                cells = Arrays.copyOf(cells, cells.length + cells.length);
            }
            if (i < 0 || i > count || count >= cells.length) {
                return;
            }
            for (int k = count; k > i; k--) {
                cells[k] = cells[k - 1];
            }
            cells[i] = value;
            count++;
        }

        void replace(int i, int value) {
            if (i >= 0 && i < count && i < cells.length) {
                cells[i] = value;
            }
        }

        void delete(int i) {
            if (i < 0 || i >= count || count > cells.length) {
                return;
            }
            count--;
            for (int k = i; k < count; k++) {
                cells[k] = cells[k + 1];
            }
        }

        void addFrom(int i, int change) {
            for (int k = Math.max(i, 0); k < count && k < cells.length; k++) {
                cells[k] += change;
            }
        }

        void empty() {
            count = 0;
        }

        void copyFrom(IntRow other) {
            count = 0;
            for (int i = 0; i < other.count; i++) {
                append(other.at(i));
            }
        }

        /** How many cells are not above a number, in a row whose cells never fall. */
        int countNotAbove(int number) {
            int low = 0;
            int high = count;
            while (low < high) {
                int middle = (low + high) / 2;
                if (at(middle) <= number) {
                    low = middle + 1;
                } else {
                    high = middle;
                }
            }
            return low;
        }
    }

    /** Where the cursors stand: before how many entries they are behind, or CLOSED. */
    private static final class Cursors {
        private final int[] places = new int[CURSORS];

        Cursors() {
            Arrays.fill(places, CLOSED);
        }

        int placeOf(int cursor) {
            return cursor >= 0 && cursor < places.length ? places[cursor] : CLOSED;
        }

        void place(int cursor, int place) {
            if (cursor >= 0 && cursor < places.length) {
                places[cursor] = place;
            }
        }

        void closeAll() {
            Arrays.fill(places, CLOSED);
        }

        void entryAdded(int position) {
            for (int i = 0; i < places.length; i++) {
                if (places[i] >= position) {
                    places[i]++;
                }
            }
        }

        /** A cursor at the removed entry keeps its place, which is the next entry's then. */
        void entryRemoved(int position) {
            for (int i = 0; i < places.length; i++) {
                if (places[i] > position) {
                    places[i]--;
                }
            }
        }
    }

    /**
     * The entries and the pages. Tier 0 is that of the leaves. A cell of a tier says how many
     * entries, or pages of the tier below, stand in the pages up to this one.
     */
    private static final class Tree {
        private final KeyRow keys = new KeyRow();
        private final IntRow values = new IntRow();
        private final KeyRow separators = new KeyRow();
        private final ArrayList<IntRow> tiers = new ArrayList<IntRow>();
        private final IntRow noTier = new IntRow();
        private final Key noKey = new Key(new byte[0]);
        private int tierTotal = 0;
        private int capacity = FIRST_CAPACITY;

        Tree() {
            addTier().append(0);
        }

        IntRow tier(int tier) {
            return tier >= 0 && tier < tiers.size() ? tiers.get(tier) : noTier;
        }

        /** Puts an empty tier above the others; a row that a lower tree left behind is used again. */
        IntRow addTier() {
            if (tierTotal >= tiers.size()) {
                tiers.add(new IntRow());
            }
            IntRow top = tier(tierTotal);
            top.empty();
            tierTotal++;
            return top;
        }

        int pageTotal(int tier) {
            return tier(tier).count();
        }

        int allPages() {
            int sum = 0;
            for (int tier = 0; tier < tierTotal; tier++) {
                sum += pageTotal(tier);
            }
            return sum;
        }

        int startOf(int tier, int page) {
            return page > 0 ? tier(tier).at(page - 1) : 0;
        }

        int endOf(int tier, int page) {
            return tier(tier).at(page);
        }

        int parentOf(int tier, int page) {
            return tier(tier + 1).countNotAbove(page);
        }

        boolean hasLeftSibling(int tier, int page) {
            return tier + 1 < tierTotal && page > startOf(tier + 1, parentOf(tier, page));
        }

        boolean hasRightSibling(int tier, int page) {
            return tier + 1 < tierTotal && page + 1 < endOf(tier + 1, parentOf(tier, page));
        }

        /** The separator of a page and the next: that of the last leaf below it and the next leaf. */
        Key separatorAfter(int tier, int page) {
            int below = page;
            for (int t = tier; t > 0; t--) {
                below = tier(t).at(below) - 1;
            }
            return separators.at(below);
        }

        int pageBytes(int tier, int page) {
            return spanBytes(tier, startOf(tier, page), endOf(tier, page));
        }

        /** The size of a page of this tier with these entries or children, be there one or not. */
        int spanBytes(int tier, int from, int to) {
            boolean leaf = tier == 0;
            int bytes = leaf ? PAGE_BYTES : PAGE_BYTES + CHILD_BYTES * (to - from);
            int fixed = leaf ? ENTRY_BYTES : SEPARATOR_BYTES;
            int end = leaf ? to : to - 1;
            Key before = noKey;
            for (int i = from; i < end; i++) {
                Key coded = leaf ? keys.at(i) : separatorAfter(tier - 1, i);
                bytes += fixed + coded.length() - coded.sharedWith(before);
                before = coded;
            }
            return bytes;
        }

        /** The shortest separator of two leaves of which the right one begins at this entry. */
        Key shortestBefore(int position) {
            Key first = keys.at(position);
            return first.prefix(first.sharedWith(keys.at(position - 1)) + 1);
        }

        void copyFrom(Tree other) {
            keys.copyFrom(other.keys);
            values.copyFrom(other.values);
            separators.copyFrom(other.separators);
            capacity = other.capacity;
            tierTotal = 0;
            for (int tier = 0; tier < other.tierTotal; tier++) {
                addTier().copyFrom(other.tier(tier));
            }
        }
    }

    /** Adds entries, and makes room where a page is too large. */
    private static final class Inserter {
        private final Tree tree;
        private final Cursors cursors;
        private int splits = 0;
        private int redistributions = 0;

        Inserter(Tree tree, Cursors cursors) {
            this.tree = tree;
            this.cursors = cursors;
        }

        void insert(Key key, int value) {
            int page = addToLeaf(key, value);
            if (tree.pageBytes(0, page) <= tree.capacity) {
                return;
            }
            // A root that a split adds has two children, and is never too large.
            int tiers = tree.tierTotal;
            if (!giveLeft(page) && !giveRight(page)) {
                split(0, page);
            }
            for (int tier = 1; tier < tiers; tier++) {
                page = tree.parentOf(tier - 1, page);
                if (tree.pageBytes(tier, page) <= tree.capacity) {
                    return;
                }
                split(tier, page);
            }
        }

        /** Returns the leaf. */
        private int addToLeaf(Key key, int value) {
            int position = tree.keys.countBelow(key, false);
            // All separators together are in order, so going down from the root comes to the same.
            int leaf = tree.separators.countBelow(key, true);
            tree.keys.insert(position, key);
            tree.values.insert(position, value);
            tree.tier(0).addFrom(leaf, 1);
            cursors.entryAdded(position);
            return leaf;
        }

        private boolean giveLeft(int leaf) {
            if (!tree.hasLeftSibling(0, leaf)) {
                return false;
            }
            int end = tree.endOf(0, leaf);
            int cut = tree.startOf(0, leaf) + 1;
            while (cut < end && tree.spanBytes(0, cut, end) > tree.capacity) {
                cut++;
            }
            if (tree.spanBytes(0, tree.startOf(0, leaf - 1), cut) > tree.capacity) {
                return false;
            }
            moveBoundary(leaf - 1, cut);
            return true;
        }

        private boolean giveRight(int leaf) {
            if (!tree.hasRightSibling(0, leaf)) {
                return false;
            }
            int start = tree.startOf(0, leaf);
            int cut = tree.endOf(0, leaf) - 1;
            while (cut > start && tree.spanBytes(0, start, cut) > tree.capacity) {
                cut--;
            }
            if (tree.spanBytes(0, cut, tree.endOf(0, leaf + 1)) > tree.capacity) {
                return false;
            }
            moveBoundary(leaf, cut);
            return true;
        }

        private void moveBoundary(int leftLeaf, int cut) {
            tree.tier(0).replace(leftLeaf, cut);
            tree.separators.replace(leftLeaf, tree.shortestBefore(cut));
            redistributions++;
        }

        private void split(int tier, int page) {
            int cut = evenCut(tier, page);
            if (tier == tree.tierTotal - 1) {
                tree.addTier().append(1);
            }
            if (tier == 0) {
                tree.separators.insert(page, tree.shortestBefore(cut));
            }
            tree.tier(tier).insert(page, cut);
            tree.tier(tier + 1).addFrom(tree.parentOf(tier, page), 1);
            splits++;
        }

        private int evenCut(int tier, int page) {
            int start = tree.startOf(tier, page);
            int end = tree.endOf(tier, page);
            int best = start + 1;
            int least = -1;
            for (int cut = start + 1; cut < end; cut++) {
                int left = tree.spanBytes(tier, start, cut);
                int difference = Math.abs(left - tree.spanBytes(tier, cut, end));
                if (least < 0 || difference < least) {
                    least = difference;
                    best = cut;
                }
            }
            return best;
        }
    }

    /** Removes entries, and merges pages that are too small. */
    private static final class Remover {
        private final Tree tree;
        private final Cursors cursors;
        private int merges = 0;

        Remover(Tree tree, Cursors cursors) {
            this.tree = tree;
            this.cursors = cursors;
        }

        /** Returns the value of the entry. */
        int removeEntry(int position) {
            int value = tree.values.at(position);
            int page = tree.tier(0).countNotAbove(position);
            tree.keys.delete(position);
            tree.values.delete(position);
            tree.tier(0).addFrom(page, -1);
            cursors.entryRemoved(position);
            for (int tier = 0; tier < tree.tierTotal - 1; tier++) {
                // Merging to the left renumbers the page, but not its parent.
                int parent = tree.parentOf(tier, page);
                if (!mergeIfSmall(tier, page)) {
                    break;
                }
                page = parent;
            }
            while (tree.tierTotal > 1 && tree.endOf(tree.tierTotal - 1, 0) == 1) {
                tree.tierTotal--;
            }
            return value;
        }

        private boolean mergeIfSmall(int tier, int page) {
            if (tree.pageBytes(tier, page) >= tree.capacity / 2) {
                return false;
            }
            if (tree.hasLeftSibling(tier, page) && mergeWithNext(tier, page - 1)) {
                return true;
            }
            return tree.hasRightSibling(tier, page) && mergeWithNext(tier, page);
        }

        private boolean mergeWithNext(int tier, int page) {
            int start = tree.startOf(tier, page);
            int end = tree.endOf(tier, page + 1);
            if (tree.spanBytes(tier, start, end) > tree.capacity) {
                return false;
            }
            tree.tier(tier + 1).addFrom(tree.parentOf(tier, page), -1);
            tree.tier(tier).delete(page);
            if (tier == 0) {
                tree.separators.delete(page);
            }
            merges++;
            return true;
        }
    }

    /** The entries that wait for being loaded. */
    private static final class LoadList {
        private final KeyRow keys = new KeyRow();
        private final IntRow values = new IntRow();

        boolean endsBelow(Key key) {
            int last = keys.count() - 1;
            return last < 0 || keys.at(last).compareWith(key) < 0;
        }

        void append(Key key, int value) {
            keys.append(key);
            values.append(value);
        }

        void empty() {
            keys.empty();
            values.empty();
        }

        /** Puts the listed entries in place of the tree's, in pages filled up to the limit. */
        void build(Tree tree, int limit) {
            tree.keys.copyFrom(keys);
            tree.values.copyFrom(values);
            tree.separators.empty();
            tree.tierTotal = 0;
            stackTier(tree, keys.count(), 1, limit);
            for (int leaf = 1; leaf < tree.pageTotal(0); leaf++) {
                tree.separators.append(tree.shortestBefore(tree.startOf(0, leaf)));
            }
            for (int tier = 1; tier < MOST_ENTRIES && tree.pageTotal(tier - 1) > 1; tier++) {
                stackTier(tree, tree.pageTotal(tier - 1), 2, limit);
            }
        }

        /** Up to the least number, entries or children are added whatever the limit is. */
        private void stackTier(Tree tree, int total, int least, int limit) {
            int tier = tree.tierTotal;
            IntRow ends = tree.addTier();
            int start = 0;
            for (int i = 0; i < total; i++) {
                if (i - start >= least && tree.spanBytes(tier, start, i + 1) > limit) {
                    ends.append(i);
                    start = i;
                }
            }
            ends.append(total);
        }
    }
}
