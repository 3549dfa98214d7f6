/** How pages share, split and merge: the parts of promises 8, 10 and 11 that the description tells. */
public final class ShapeTest {
    public static void main(String[] args) {
        splitsInTheMiddle();
        splitsAtTheSmallerOfTwo();
        givesLeft();
        givesLeftAsFewAsNeeded();
        givesRight();
        splitsBetweenFullSiblings();
        separatorsAreShort();
        longerSeparatorSplitsTheParent();
        splitsTheRoot();
        mergesRight();
        mergesLeftFirst();
        triesRightWhenLeftIsFull();
        staysSmallBetweenFullSiblings();
        mergesInnerPages();
        emptyLeafWithoutSiblingStays();
        mergesBelowHalfRoundedDown();
        Due.end("ShapeTest");
    }

    /** With this capacity a leaf holds seven keys of a byte that share nothing. */
    private static FrontCodedIndex withSigns(String signs) {
        FrontCodedIndex x = new FrontCodedIndex();
        x.setCapacity(64);
        Keys.putSigns(x, signs);
        return x;
    }

    private static void splitsInTheMiddle() {
        FrontCodedIndex x = withSigns("abcdefg");
        Due.is("8 as large as P", Keys.level(x, 0), "64/7");
        Keys.putSigns(x, "h");
        Due.is("8 split", Keys.level(x, 1), "40/4 40/4");
        Due.is("8 new root", Keys.level(x, 0), "20/2");
        Due.is("8 separator", Keys.separators(x, 0, 0), "e");
        Due.is("8 one split", x.statistic(2), 1);
        FrontCodedIndex y = withSigns("bcdefg");
        Keys.put(y, "abcdefghijkl", 0);
        // 8 + 19 + 2 * 8 left and 8 + 4 * 8 right: 43 and 40.
        Due.is("8 by bytes", Keys.level(y, 1), "43/3 40/4");
    }

    private static void splitsAtTheSmallerOfTwo() {
        FrontCodedIndex x = new FrontCodedIndex();
        x.setCapacity(72);
        Keys.putSigns(x, "abcdefghi");
        Due.is("8 40 and 48, not 48 and 40", Keys.level(x, 1), "40/4 48/5");
    }

    private static void givesLeft() {
        FrontCodedIndex x = withSigns("abcdefghijk");
        Due.is("8 right leaf full", Keys.level(x, 1), "40/4 64/7");
        Keys.putSigns(x, "l");
        Due.is("8 one given", Keys.level(x, 1), "48/5 64/7");
        Due.is("8 separator anew", Keys.separators(x, 0, 0), "f");
        Due.is("8 redistribution", x.statistic(3), 1);
        Due.is("8 no split", x.statistic(2), 1);
        Keys.putSigns(x, "mn");
        Due.is("8 left leaf full", Keys.level(x, 1), "64/7 64/7");
        Keys.putSigns(x, "o");
        Due.is("8 split at last", Keys.level(x, 1), "64/7 40/4 40/4");
        Due.is("8 counts", x.statistic(2) * 10 + x.statistic(3), 23);
    }

    private static void givesLeftAsFewAsNeeded() {
        FrontCodedIndex x = withSigns("abcdefghijk");
        Keys.put(x, "lmnopqrstuvw", 0);
        // 64 + 19 is too large by 19, and an entry takes 8.
        Due.is("8 three given", Keys.level(x, 1), "64/7 59/5");
        Due.is("8 one redistribution", x.statistic(3), 1);
        FrontCodedIndex y = withSigns("abcdefghijkl");
        Due.is("8 left leaf has five", Keys.level(y, 1), "48/5 64/7");
        Keys.put(y, "mnopqrstuvwx", 0);
        // Three have to go, and the left leaf has no room for them.
        Due.is("8 not possible", Keys.level(y, 1), "48/5 48/5 43/3");
        Due.is("8 no redistribution", y.statistic(3), 1);
    }

    private static void givesRight() {
        FrontCodedIndex x = withSigns("bdfhjlnp");
        Keys.putSigns(x, "ace");
        Due.is("8 left leaf full", Keys.level(x, 1), "64/7 40/4");
        Keys.putSigns(x, "g");
        Due.is("8 one given", Keys.level(x, 1), "64/7 48/5");
        Due.is("8 separator anew", Keys.separators(x, 0, 0), "h");
        Due.is("8 redistribution", x.statistic(3), 1);
        FrontCodedIndex y = withSigns("abcdefghijklmno");
        Due.is("8 three leaves", Keys.level(y, 1), "64/7 40/4 40/4");
        Keys.put(y, "hb", 0);
        Keys.put(y, "hc", 0);
        Keys.put(y, "hd", 0);
        Due.is("8 middle leaf full", Keys.level(y, 1), "64/7 64/7 40/4");
        Keys.put(y, "he", 0);
        Due.is("8 left is full, so right", Keys.level(y, 1), "64/7 64/7 48/5");
        Due.is("8 separators", Keys.separators(y, 0, 0), "h k");
    }

    private static void splitsBetweenFullSiblings() {
        FrontCodedIndex x = withSigns("abcdefghijklmnopqrstu");
        Due.is("8 all full", Keys.level(x, 1), "64/7 64/7 64/7");
        Keys.put(x, "jj", 0);
        Due.is("8 split", Keys.level(x, 1), "64/7 40/4 40/4 64/7");
        Due.is("8 separators", Keys.separators(x, 0, 0), "h k o");
    }

    private static void separatorsAreShort() {
        FrontCodedIndex x = new FrontCodedIndex();
        x.setCapacity(64);
        String[] keys = {"aaaa", "aaab", "aaba", "aabb", "abaa", "abab", "abba", "abbb"};
        for (String key : keys) {
            Keys.put(x, key, 1);
        }
        Due.is("8 split", Keys.level(x, 1), "44/4 44/4");
        Due.is("8 shortest", Keys.separators(x, 0, 0), "ab");
        FrontCodedIndex y = new FrontCodedIndex();
        y.setCapacity(64);
        Keys.queue(y, "a", 1);
        Keys.queue(y, "abcdefghijkl", 1);
        Keys.queue(y, "abcdefghijkm", 1);
        Keys.queue(y, "abx", 1);
        y.load(40);
        Due.is("32 a prefix before", Keys.level(y, 2), "16/1 27/1 27/1 18/1");
        Due.is("32 one sign more than it", Keys.separators(y, 1, 0), "ab");
        Due.is("32 the whole key", Keys.separators(y, 0, 0), "abcdefghijkm");
        Due.is("32 one of several signs", Keys.separators(y, 1, 1), "abx");
    }

    private static void longerSeparatorSplitsTheParent() {
        FrontCodedIndex x = new FrontCodedIndex();
        x.setCapacity(64);
        for (int i = 0; i < 49; i++) {
            x.setKey(i, 1);
            x.put(i);
        }
        Due.is("8 one inner page", Keys.level(x, 0), "60/7");
        Due.is("8 full leaves", Keys.level(x, 1), "64/7 64/7 64/7 64/7 64/7 64/7 64/7");
        for (int gone : new int[] {0, 1, 7, 8, 9}) {
            x.setKey(gone, 1);
            x.remove();
        }
        x.setKey(0x070000000001L, 6);
        x.put(1);
        x.setKey(0x070000000002L, 6);
        x.put(2);
        Due.is("8 nothing moved yet", x.pageSize(1, 0) * 100 + x.pageSize(1, 1), 4861);
        int splits = x.statistic(2);
        int redistributions = x.statistic(3);
        x.setKey(9, 1);
        x.put(9);
        Due.is("8 redistribution", x.statistic(3) - redistributions, 1);
        Due.is("8 the parent was split", x.statistic(2) - splits, 1);
        Due.is("8 inner pages", Keys.level(x, 1), "33/3 36/4");
        Due.is("8 separator of six bytes", x.separator(1, 0, 0), 6);
        Due.is("8 leaves", x.pageSize(2, 0) * 100 + x.pageSize(2, 1), 6161);
    }

    private static void splitsTheRoot() {
        FrontCodedIndex x = PageTest.fifty();
        Due.is("8 taken out in the middle", Keys.level(x, 1), "36/4 36/4");
        Due.is("8 new root", Keys.level(x, 0), "20/2");
        x.separator(0, 0, 0);
        Due.is("8 the one taken out", x.keyByte(0), 28);
    }

    private static void mergesRight() {
        FrontCodedIndex x = withSigns("abcdefgh");
        Keys.remove(x, "a");
        Due.is("10 half of P is enough", Keys.level(x, 1), "32/3 40/4");
        Keys.remove(x, "b");
        Due.is("10 merged, and the root is gone", Keys.level(x, 0), "56/6");
        Due.is("10 one merge", x.statistic(4), 1);
    }

    private static void mergesLeftFirst() {
        FrontCodedIndex x = withSigns("abcdefghijklmno");
        Keys.range(x, "", "d");
        x.removeRange();
        Due.is("10 three leaves of four", Keys.level(x, 1), "40/4 40/4 40/4");
        Keys.remove(x, "h");
        Keys.remove(x, "i");
        Due.is("10 left of both", Keys.level(x, 1), "56/6 40/4");
        Due.is("10 separator", Keys.separators(x, 0, 0), "l");
    }

    private static void triesRightWhenLeftIsFull() {
        FrontCodedIndex x = withSigns("abcdefghijklmno");
        Due.is("10 three leaves", Keys.level(x, 1), "64/7 40/4 40/4");
        Keys.remove(x, "h");
        Keys.remove(x, "i");
        Due.is("10 the right one", Keys.level(x, 1), "64/7 56/6");
        Due.is("10 separator", Keys.separators(x, 0, 0), "h");
    }

    private static void staysSmallBetweenFullSiblings() {
        FrontCodedIndex x = withSigns("abcdefghijklmnopqrstu");
        Keys.range(x, "h", "n");
        x.removeRange();
        Due.is("10 stays small", Keys.level(x, 1), "64/7 16/1 64/7");
        Due.is("10 no merge", x.statistic(4), 0);
        Keys.remove(x, "n");
        Due.is("10 an empty one goes", Keys.level(x, 1), "64/7 64/7");
        Due.is("10 one merge", x.statistic(4), 1);
        Due.is("10 separator", Keys.separators(x, 0, 0), "o");
    }

    private static void mergesInnerPages() {
        FrontCodedIndex x = PageTest.fifty();
        Keys.set(x, "");
        x.swapBound();
        x.setKey(6, 1);
        x.removeRange();
        Due.is("11 one entry left in the first leaf", x.pageSize(2, 0), 16);
        x.setKey(7, 1);
        Due.is("11 it goes", x.removeRange(), 1);
        Due.is("11 inner pages merged", Keys.level(x, 0), "60/7");
        Due.is("11 leaves", Keys.level(x, 1), "64/7 64/7 64/7 64/7 64/7 40/4 40/4");
        x.separator(0, 0, 2);
        Due.is("11 the root's separator is between", x.keyByte(0), 28);
        Due.is("11 two merges", x.statistic(4), 2);
    }

    private static void emptyLeafWithoutSiblingStays() {
        FrontCodedIndex x = new FrontCodedIndex();
        x.setCapacity(64);
        for (char sign = 'a'; sign <= 'e'; sign++) {
            Keys.queue(x, "commonstart" + sign, sign);
        }
        x.load(40);
        Keys.remove(x, "commonstarte");
        Due.is("10 empty leaf", Keys.level(x, 3), "27/1 27/1 27/1 27/1 8/0");
        Due.is("10 height stays", x.height(), 4);
        Due.is("10 no merge", x.statistic(4), 0);
        Keys.set(x, "commonstartz");
        Due.is("24 none behind", x.open(0), false);
        Due.is("27 over the empty leaf", x.retreat(0), 'd');
        Due.is("8 into the empty leaf", x.put(9) && x.put(10), false);
        Keys.set(x, "commonstarty");
        x.put(1);
        Due.is("8 two there", Keys.level(x, 3), "27/1 27/1 27/1 27/1 35/2");
    }

    private static void mergesBelowHalfRoundedDown() {
        FrontCodedIndex x = new FrontCodedIndex();
        x.setCapacity(65);
        Keys.putSigns(x, "abcdefgh");
        Keys.remove(x, "a");
        Due.is("10 32 is not below 65 / 2", Keys.level(x, 1), "32/3 40/4");
        Keys.put(x, "b", 1);
        Due.is("8 a changed value moves nothing", Keys.level(x, 1), "32/3 40/4");
    }
}
