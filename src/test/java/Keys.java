/** Sets and reads the key buffer by texts, in as few calls as the face allows. */
final class Keys {
    private Keys() {
    }

    static void set(FrontCodedIndex x, String text) {
        int first = Math.min(text.length(), 8);
        long code = 0;
        for (int i = 0; i < first; i++) {
            code = code << 8 | text.charAt(i);
        }
        x.setKey(code, first);
        for (int i = first; i < text.length(); i++) {
            x.feed(text.charAt(i));
        }
    }

    static String get(FrontCodedIndex x) {
        x.swapBound();
        int length = x.swapBound();
        StringBuilder text = new StringBuilder();
        for (int i = 0; i < length; i++) {
            text.append((char) x.keyByte(i));
        }
        return text.toString();
    }

    static boolean put(FrontCodedIndex x, String text, int value) {
        set(x, text);
        return x.put(value);
    }

    /** Puts an entry for each sign of the text, with the sign's number as its value. */
    static void putSigns(FrontCodedIndex x, String signs) {
        for (int i = 0; i < signs.length(); i++) {
            put(x, signs.substring(i, i + 1), signs.charAt(i));
        }
    }

    static int remove(FrontCodedIndex x, String text) {
        set(x, text);
        return x.remove();
    }

    static int queue(FrontCodedIndex x, String text, int value) {
        set(x, text);
        return x.queue(value);
    }

    /** Sets the bound to one text and the key to another. */
    static void range(FrontCodedIndex x, String from, String to) {
        set(x, from);
        x.swapBound();
        set(x, to);
    }

    /** All pages of a level: size and fanout of each. */
    static String level(FrontCodedIndex x, int level) {
        StringBuilder text = new StringBuilder();
        for (int i = 0; i < x.pageCount(level); i++) {
            text.append(i == 0 ? "" : " ").append(x.pageSize(level, i));
            text.append("/").append(x.pageFanout(level, i));
        }
        return text.toString();
    }

    /** The separators of a page; changes the key. */
    static String separators(FrontCodedIndex x, int level, int page) {
        StringBuilder text = new StringBuilder();
        for (int k = 0; k + 1 < x.pageFanout(level, page); k++) {
            x.separator(level, page, k);
            text.append(k == 0 ? "" : " ").append(get(x));
        }
        return text.toString();
    }

    /** The keys of all entries; changes the key. */
    static String all(FrontCodedIndex x) {
        StringBuilder text = new StringBuilder();
        for (int i = 0; i < x.size(); i++) {
            x.select(i);
            text.append(i == 0 ? "" : " ").append(get(x));
        }
        return text.toString();
    }
}
