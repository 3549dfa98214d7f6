/** Sets and reads the key buffer by texts, in as few calls as the face allows. */
final class Keys {
    private Keys() {
    }

    static void set(FrontCodedIndex x, String text) {
        int first = Math.min(text.length(), 8);
        long code = 0;
        for (int i = 0; i < first; i++) {
            code = code << 8 | text.charAt(i);
        }
        x.setKey(code, first);
        for (int i = first; i < text.length(); i++) {
            x.feed(text.charAt(i));
        }
    }

    static String get(FrontCodedIndex x) {
        x.swapBound();
        int length = x.swapBound();
        StringBuilder text = new StringBuilder();
        for (int i = 0; i < length; i++) {
            text.append((char) x.keyByte(i));
        }
        return text.toString();
    }

    static boolean put(FrontCodedIndex x, String text, int value) {
        set(x, text);
        return x.put(value);
    }

    /** Puts an entry for each sign of the text, with the sign's number as its value. */
    static void putSigns(FrontCodedIndex x, String signs) {
        for (int i = 0; i < signs.length(); i++) {
            put(x, signs.substring(i, i + 1), signs.charAt(i));
        }
    }

    /** Puts an entry for each key of a list, with spaces between them; its number is its value. */
    static void putAll(FrontCodedIndex x, String list) {
        String[] keys = list.split(" ");
        for (int i = 0; i < keys.length; i++) {
            put(x, keys[i], i);
        }
    }

    /** Queues an entry for each key of a list, with spaces between them; its number is its value. */
    static void queueAll(FrontCodedIndex x, String list) {
        String[] keys = list.split(" ");
        for (int i = 0; i < keys.length; i++) {
            queue(x, keys[i], i);
        }
    }

    /** A tree of this capacity that a list of keys was loaded into. */
    static FrontCodedIndex loaded(int capacity, int fill, String list) {
        FrontCodedIndex x = new FrontCodedIndex();
        x.setCapacity(capacity);
        queueAll(x, list);
        x.load(fill);
        return x;
    }

    /** A list of so many keys of one sign, from this sign on. */
    static String signs(char first, int n) {
        StringBuilder list = new StringBuilder();
        for (int i = 0; i < n; i++) {
            list.append(i == 0 ? "" : " ").append((char) (first + i));
        }
        return list.toString();
    }

    static int remove(FrontCodedIndex x, String text) {
        set(x, text);
        return x.remove();
    }

    static int queue(FrontCodedIndex x, String text, int value) {
        set(x, text);
        return x.queue(value);
    }

    static boolean open(FrontCodedIndex x, int cursor, String text) {
        set(x, text);
        return x.open(cursor);
    }

    /** Sets the bound to one text and the key to another. */
    static void range(FrontCodedIndex x, String from, String to) {
        set(x, from);
        x.swapBound();
        set(x, to);
    }

    /** All pages of a level: size and fanout of each. */
    static String level(FrontCodedIndex x, int level) {
        StringBuilder text = new StringBuilder();
        for (int i = 0; i < x.pageCount(level); i++) {
            text.append(i == 0 ? "" : " ").append(x.pageSize(level, i));
            text.append("/").append(x.pageFanout(level, i));
        }
        return text.toString();
    }

    /** All levels from the root down, as level() tells each. */
    static String tree(FrontCodedIndex x) {
        StringBuilder text = new StringBuilder();
        for (int level = 0; level < x.height(); level++) {
            text.append(level == 0 ? "" : " | ").append(level(x, level));
        }
        return text.toString();
    }

    /** The separators of a page; changes the key. */
    static String separators(FrontCodedIndex x, int level, int page) {
        StringBuilder text = new StringBuilder();
        for (int k = 0; k + 1 < x.pageFanout(level, page); k++) {
            x.separator(level, page, k);
            text.append(k == 0 ? "" : " ").append(get(x));
        }
        return text.toString();
    }

    /** The separators of all inner pages, from the root down; changes the key. */
    static String allSeparators(FrontCodedIndex x) {
        StringBuilder text = new StringBuilder();
        for (int level = 0; level + 1 < x.height(); level++) {
            for (int page = 0; page < x.pageCount(level); page++) {
                text.append(level + page == 0 ? "" : page == 0 ? " | " : ", ");
                text.append(separators(x, level, page));
            }
        }
        return text.toString();
    }

    /** The keys of all entries; changes the key. */
    static String all(FrontCodedIndex x) {
        StringBuilder text = new StringBuilder();
        for (int i = 0; i < x.size(); i++) {
            x.select(i);
            text.append(i == 0 ? "" : " ").append(get(x));
        }
        return text.toString();
    }
}
