import java.util.ArrayList;
import java.util.List;
import java.util.NoSuchElementException;

/**
 * The document once more, word by word, with pages as objects that hold their children and
 * separators, so that the class's flat tree can be compared with it.
 */
final class Model {
    private static final class Entry {
        final String key;
        int value;
        boolean removed = false;

        Entry(String key, int value) {
            this.key = key;
            this.value = value;
        }
    }

    private static final class Page {
        final boolean leaf;
        final List<Entry> entries = new ArrayList<>();
        final List<Page> children = new ArrayList<>();
        final List<String> separators = new ArrayList<>();
        Page parent;

        Page(boolean leaf) {
            this.leaf = leaf;
        }

        int fanout() {
            return leaf ? entries.size() : children.size();
        }

        int size() {
            int size = 8;
            String before = "";
            for (Entry entry : entries) {
                size += 7 + entry.key.length() - shared(entry.key, before);
                before = entry.key;
            }
            size += 4 * children.size();
            before = "";
            for (String separator : separators) {
                size += 3 + separator.length() - shared(separator, before);
                before = separator;
            }
            return size;
        }
    }

    /** Null where the cursor is closed; at the entry null where it is at the end. */
    private static final class Cursor {
        Entry entry;
    }

    private String key = "";
    private String bound = "";
    private int capacity = 96;
    private Page root = new Page(true);
    private int splits = 0;
    private int redistributions = 0;
    private int merges = 0;
    private final Cursor[] cursors = new Cursor[4];
    private List<Entry> loadList = new ArrayList<>();
    private Page savedRoot = null;
    private int savedCapacity = 0;

    static int shared(String a, String b) {
        int n = 0;
        while (n < a.length() && n < b.length() && a.charAt(n) == b.charAt(n)) {
            n++;
        }
        return n;
    }

    int feed(int b) {
        check(b >= 0 && b <= 127, new IllegalArgumentException());
        check(key.length() < 12, new IllegalStateException());
        key += (char) b;
        return key.length();
    }

    int setKey(long code, int n) {
        check(n >= 0 && n <= 8, new IllegalArgumentException());
        String text = "";
        int zeros = 0;
        for (int i = n - 1; i >= 0; i--) {
            char sign = (char) ((code >>> 8 * i) & 127);
            text += sign;
            zeros += sign == 0 ? 1 : 0;
        }
        key = text;
        return zeros;
    }

    int cutKey(int n) {
        check(n >= 0 && n <= key.length(), new IllegalArgumentException());
        int length = key.length();
        key = key.substring(0, n);
        return length;
    }

    int keyByte(int i) {
        check(i >= 0 && i < key.length(), new IndexOutOfBoundsException());
        return key.charAt(i);
    }

    int swapBound() {
        String former = key;
        key = bound;
        bound = former;
        return key.length();
    }

    int setCapacity(int p) {
        check(p >= 64 && p <= 200, new IllegalArgumentException());
        check(size() == 0, new IllegalStateException());
        int previous = capacity;
        capacity = p;
        return previous;
    }

    boolean put(int value) {
        Entry entry = entryOf(key);
        if (entry != null) {
            entry.value = value;
            return false;
        }
        check(size() < 300, new IllegalStateException());
        Page leaf = leafFor(key);
        int at = 0;
        while (at < leaf.entries.size() && leaf.entries.get(at).key.compareTo(key) < 0) {
            at++;
        }
        leaf.entries.add(at, new Entry(key, value));
        if (leaf.size() > capacity) {
            Page parent = leaf.parent;
            if (!giveLeft(leaf) && !giveRight(leaf)) {
                splitLeaf(leaf);
            }
            while (parent != null && parent.size() > capacity) {
                Page next = parent.parent;
                splitInner(parent);
                parent = next;
            }
        }
        return true;
    }

    int get() {
        Entry entry = entryOf(key);
        check(entry != null, new NoSuchElementException());
        return entry.value;
    }

    int remove() {
        Entry entry = entryOf(key);
        check(entry != null, new NoSuchElementException());
        removeEntry(entry);
        return entry.value;
    }

    int removeRange() {
        int count = 0;
        for (Entry entry : all()) {
            if (entry.key.compareTo(bound) >= 0 && entry.key.compareTo(key) < 0) {
                removeEntry(entry);
                count++;
            }
        }
        return count;
    }

    int size() {
        return all().size();
    }

    int rank() {
        return (int) all().stream().filter(entry -> entry.key.compareTo(key) < 0).count();
    }

    int select(int i) {
        check(i >= 0 && i < size(), new IndexOutOfBoundsException());
        key = all().get(i).key;
        return all().get(i).value;
    }

    int floor() {
        Entry found = null;
        for (Entry entry : all()) {
            if (entry.key.compareTo(key) <= 0) {
                found = entry;
            }
        }
        check(found != null, new NoSuchElementException());
        key = found.key;
        return found.value;
    }

    int countPrefix() {
        return (int) all().stream().filter(entry -> entry.key.startsWith(key)).count();
    }

    int height() {
        int height = 1;
        for (Page page = root; !page.leaf; page = page.children.get(0)) {
            height++;
        }
        return height;
    }

    int pageCount(int level) {
        check(level >= 0 && level < height(), new IndexOutOfBoundsException());
        return level(level).size();
    }

    int pageSize(int level, int i) {
        return page(level, i).size();
    }

    int pageFanout(int level, int i) {
        return page(level, i).fanout();
    }

    int separator(int level, int i, int k) {
        Page page = page(level, i);
        check(k >= 0 && k < page.separators.size(), new NoSuchElementException());
        key = page.separators.get(k);
        return key.length();
    }

    int statistic(int what) {
        check(what >= 0 && what <= 4, new IllegalArgumentException());
        if (what >= 2) {
            return new int[] {splits, redistributions, merges}[what - 2];
        }
        int sum = 0;
        for (int level = 0; level < height(); level++) {
            for (Page page : level(level)) {
                sum += what == 0 ? page.size() : 1;
            }
        }
        return sum;
    }

    long occupancyBits() {
        List<Page> leaves = level(height() - 1);
        int sum = leaves.stream().mapToInt(Page::size).sum();
        return Double.doubleToLongBits((double) sum * 100.0 / (double) leaves.size() / (double) capacity);
    }

    boolean open(int cursor) {
        check(cursor >= 0 && cursor < 4, new IllegalArgumentException());
        cursors[cursor] = new Cursor();
        for (Entry entry : all()) {
            if (entry.key.compareTo(key) >= 0) {
                cursors[cursor].entry = entry;
                return true;
            }
        }
        return false;
    }

    boolean close(int cursor) {
        check(cursor >= 0 && cursor < 4, new IllegalArgumentException());
        boolean open = cursors[cursor] != null;
        cursors[cursor] = null;
        return open;
    }

    boolean advance(int cursor) {
        Entry entry = entryAt(cursor);
        int next = all().indexOf(entry) + 1;
        cursors[cursor].entry = next < size() ? all().get(next) : null;
        return cursors[cursor].entry != null;
    }

    int retreat(int cursor) {
        int before = before(opened(cursor));
        check(before > 0, new NoSuchElementException());
        cursors[cursor].entry = all().get(before - 1);
        return cursors[cursor].entry.value;
    }

    int current(int cursor) {
        Entry entry = entryAt(cursor);
        key = entry.key;
        return entry.value;
    }

    int removeAt(int cursor) {
        Entry entry = entryAt(cursor);
        removeEntry(entry);
        return entry.value;
    }

    int distance(int from, int to) {
        check(from >= 0 && from < 4 && to >= 0 && to < 4, new IllegalArgumentException());
        check(cursors[from] != null && cursors[to] != null, new IllegalStateException());
        return before(cursors[to]) - before(cursors[from]);
    }

    int queue(int value) {
        int n = loadList.size();
        check(n < 300 && (n == 0 || loadList.get(n - 1).key.compareTo(key) < 0), new IllegalStateException());
        loadList.add(new Entry(key, value));
        return n + 1;
    }

    int load(int fill) {
        check(fill >= 40 && fill <= 100, new IllegalArgumentException());
        int limit = capacity * fill / 100;
        List<Page> level = new ArrayList<>();
        Page current = new Page(true);
        level.add(current);
        for (Entry entry : loadList) {
            current.entries.add(entry);
            if (current.entries.size() > 1 && current.size() > limit) {
                current.entries.remove(entry);
                current = new Page(true);
                level.add(current);
                current.entries.add(entry);
            }
        }
        while (level.size() > 1) {
            level = levelAbove(level, limit);
        }
        root = level.get(0);
        loadList = new ArrayList<>();
        java.util.Arrays.fill(cursors, null);
        return statistic(1);
    }

    int saveSnapshot() {
        savedRoot = copy(root);
        savedCapacity = capacity;
        return size();
    }

    int restoreSnapshot() {
        check(savedRoot != null, new IllegalStateException());
        root = copy(savedRoot);
        capacity = savedCapacity;
        java.util.Arrays.fill(cursors, null);
        return size();
    }

    /** Where the tree breaks a rule of the document, or "". */
    String broken() {
        for (int level = 0; level < height(); level++) {
            for (Page page : level(level)) {
                if (page.size() > capacity && size() > 0) {
                    return "a page is larger than P";
                }
                if (!page.leaf && page.separators.size() != page.children.size() - 1) {
                    return "a page lacks a separator";
                }
            }
        }
        return "";
    }

    private static void check(boolean holds, RuntimeException otherwise) {
        if (!holds) {
            throw otherwise;
        }
    }

    private List<Entry> all() {
        List<Entry> all = new ArrayList<>();
        for (Page leaf : level(height() - 1)) {
            all.addAll(leaf.entries);
        }
        return all;
    }

    private List<Page> level(int level) {
        List<Page> pages = List.of(root);
        for (int i = 0; i < level; i++) {
            List<Page> below = new ArrayList<>();
            for (Page page : pages) {
                below.addAll(page.children);
            }
            pages = below;
        }
        return pages;
    }

    private Page page(int level, int i) {
        check(level >= 0 && level < height(), new IndexOutOfBoundsException());
        check(i >= 0 && i < level(level).size(), new IndexOutOfBoundsException());
        return level(level).get(i);
    }

    private Page leafFor(String wanted) {
        Page page = root;
        while (!page.leaf) {
            int child = 0;
            for (String separator : page.separators) {
                child += separator.compareTo(wanted) <= 0 ? 1 : 0;
            }
            page = page.children.get(child);
        }
        return page;
    }

    /** Looks in the leaf for the key alone, so that a wrong separator shows. */
    private Entry entryOf(String wanted) {
        for (Entry entry : leafFor(wanted).entries) {
            if (entry.key.equals(wanted)) {
                return entry;
            }
        }
        return null;
    }

    private static String shortest(String left, String right) {
        for (int n = 0; n <= right.length(); n++) {
            if (right.substring(0, n).compareTo(left) > 0) {
                return right.substring(0, n);
            }
        }
        throw new AssertionError("not in order: " + left + ", " + right);
    }

    private static String separatorOf(Page left, Page right) {
        return shortest(left.entries.get(left.entries.size() - 1).key, right.entries.get(0).key);
    }

    private static Page sibling(Page page, int step) {
        if (page.parent == null) {
            return null;
        }
        int i = page.parent.children.indexOf(page) + step;
        return i >= 0 && i < page.parent.children.size() ? page.parent.children.get(i) : null;
    }

    private boolean giveLeft(Page leaf) {
        Page left = sibling(leaf, -1);
        if (left == null) {
            return false;
        }
        List<Entry> moved = new ArrayList<>();
        while (leaf.size() > capacity) {
            moved.add(leaf.entries.remove(0));
        }
        left.entries.addAll(moved);
        if (left.size() > capacity) {
            left.entries.removeAll(moved);
            leaf.entries.addAll(0, moved);
            return false;
        }
        leaf.parent.separators.set(leaf.parent.children.indexOf(left), separatorOf(left, leaf));
        redistributions++;
        return true;
    }

    private boolean giveRight(Page leaf) {
        Page right = sibling(leaf, 1);
        if (right == null) {
            return false;
        }
        List<Entry> moved = new ArrayList<>();
        while (leaf.size() > capacity) {
            moved.add(0, leaf.entries.remove(leaf.entries.size() - 1));
        }
        right.entries.addAll(0, moved);
        if (right.size() > capacity) {
            right.entries.removeAll(moved);
            leaf.entries.addAll(moved);
            return false;
        }
        leaf.parent.separators.set(leaf.parent.children.indexOf(leaf), separatorOf(leaf, right));
        redistributions++;
        return true;
    }

    private void splitLeaf(Page leaf) {
        List<Entry> entries = new ArrayList<>(leaf.entries);
        int best = -1;
        int least = Integer.MAX_VALUE;
        for (int m = 0; m <= entries.size(); m++) {
            Page left = new Page(true);
            Page right = new Page(true);
            left.entries.addAll(entries.subList(0, m));
            right.entries.addAll(entries.subList(m, entries.size()));
            int difference = Math.abs(left.size() - right.size());
            if (difference < least) {
                least = difference;
                best = m;
            }
        }
        Page right = new Page(true);
        right.entries.addAll(entries.subList(best, entries.size()));
        leaf.entries.removeAll(right.entries);
        adopt(leaf, right, separatorOf(leaf, right));
    }

    private void splitInner(Page page) {
        Page bestRight = null;
        int best = -1;
        int least = Integer.MAX_VALUE;
        int n = page.separators.size();
        for (int taken = 0; taken < n; taken++) {
            Page left = new Page(false);
            Page right = new Page(false);
            left.children.addAll(page.children.subList(0, taken + 1));
            left.separators.addAll(page.separators.subList(0, taken));
            right.children.addAll(page.children.subList(taken + 1, n + 1));
            right.separators.addAll(page.separators.subList(taken + 1, n));
            int difference = Math.abs(left.size() - right.size());
            if (difference < least) {
                least = difference;
                best = taken;
                bestRight = right;
            }
        }
        String taken = page.separators.get(best);
        page.children.removeAll(bestRight.children);
        page.separators.subList(best, n).clear();
        for (Page child : bestRight.children) {
            child.parent = bestRight;
        }
        adopt(page, bestRight, taken);
    }

    private void adopt(Page left, Page right, String separator) {
        splits++;
        if (left.parent == null) {
            root = new Page(false);
            root.children.add(left);
            left.parent = root;
        }
        right.parent = left.parent;
        int i = left.parent.children.indexOf(left);
        left.parent.children.add(i + 1, right);
        left.parent.separators.add(i, separator);
    }

    private void removeEntry(Entry entry) {
        int next = all().indexOf(entry) + 1;
        Entry heir = next < size() ? all().get(next) : null;
        for (Cursor cursor : cursors) {
            if (cursor != null && cursor.entry == entry) {
                cursor.entry = heir;
            }
        }
        Page page = leafFor(entry.key);
        check(page.entries.remove(entry), new IllegalStateException("not in its leaf"));
        while (page.parent != null && page.size() < capacity / 2) {
            Page parent = page.parent;
            Page left = sibling(page, -1);
            Page right = sibling(page, 1);
            if (!(left != null && merge(left, page)) && !(right != null && merge(page, right))) {
                break;
            }
            page = parent;
        }
        while (!root.leaf && root.children.size() == 1) {
            root = root.children.get(0);
            root.parent = null;
        }
    }

    private boolean merge(Page left, Page right) {
        int between = left.parent.children.indexOf(left);
        Page merged = new Page(left.leaf);
        merged.entries.addAll(left.entries);
        merged.entries.addAll(right.entries);
        merged.children.addAll(left.children);
        merged.children.addAll(right.children);
        merged.separators.addAll(left.separators);
        if (!left.leaf) {
            merged.separators.add(left.parent.separators.get(between));
        }
        merged.separators.addAll(right.separators);
        if (merged.size() > capacity) {
            return false;
        }
        merges++;
        merged.parent = left.parent;
        for (Page child : merged.children) {
            child.parent = merged;
        }
        left.parent.children.set(between, merged);
        left.parent.children.remove(between + 1);
        left.parent.separators.remove(between);
        return true;
    }

    private static Page lastLeaf(Page page) {
        return page.leaf ? page : lastLeaf(page.children.get(page.children.size() - 1));
    }

    private static Page firstLeaf(Page page) {
        return page.leaf ? page : firstLeaf(page.children.get(0));
    }

    private static List<Page> levelAbove(List<Page> level, int limit) {
        List<Page> above = new ArrayList<>();
        Page current = null;
        Page before = null;
        for (Page page : level) {
            if (current != null) {
                boolean few = current.children.size() < 2;
                current.children.add(page);
                current.separators.add(separatorOf(lastLeaf(before), firstLeaf(page)));
                if (!few && current.size() > limit) {
                    current.children.remove(page);
                    current.separators.remove(current.separators.size() - 1);
                    current = null;
                }
            }
            if (current == null) {
                current = new Page(false);
                current.children.add(page);
                above.add(current);
            }
            page.parent = current;
            before = page;
        }
        return above;
    }

    private static Page copy(Page page) {
        Page copy = new Page(page.leaf);
        for (Entry entry : page.entries) {
            copy.entries.add(new Entry(entry.key, entry.value));
        }
        for (Page child : page.children) {
            Page below = copy(child);
            below.parent = copy;
            copy.children.add(below);
        }
        copy.separators.addAll(page.separators);
        return copy;
    }

    private Cursor opened(int cursor) {
        check(cursor >= 0 && cursor < 4, new IllegalArgumentException());
        check(cursors[cursor] != null, new IllegalStateException());
        return cursors[cursor];
    }

    private Entry entryAt(int cursor) {
        Entry entry = opened(cursor).entry;
        check(entry != null, new NoSuchElementException());
        return entry;
    }

    private int before(Cursor cursor) {
        return cursor.entry == null ? size() : all().indexOf(cursor.entry);
    }
}
