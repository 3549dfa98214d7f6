import java.util.NoSuchElementException;

/**
 * The boundary cases of "Removal" in the document's description, which promises 10, 11 and 29 bring
 * with them. A leaf of n keys of one sign that share nothing has 8 + 8 * n bytes, an inner page of n
 * children with separators of one sign 4 + 8 * n.
 */
public final class RemoveEdgeTest {
    public static void main(String[] args) {
        rootLeafIsNotMerged();
        leafOfExactlyHalf();
        halfIsRoundedDown();
        mergedLeafOfExactlyP();
        mergedLeafSharesBytes();
        leftBeforeRight();
        rightWhereLeftIsTooLarge();
        rightWhereNoneIsLeft();
        leftWhereNoneIsRight();
        smallWhereBothAreTooLarge();
        noRightSiblingInAnotherParent();
        noLeftSiblingInAnotherParent();
        onlyTheirSeparatorIsRemoved();
        parentOfExactlyHalf();
        mergedParentOfExactlyP();
        parentLeftBeforeRight();
        parentRightWhereLeftIsTooLarge();
        parentWithoutLossStays();
        rootOfTwoChildrenIsNotMerged();
        mergesUpToTheRoot();
        parentNotMergedWithLeftOfAnotherParent();
        parentNotMergedWithRightOfAnotherParent();
        emptyLeafWithoutSiblingStays();
        emptyLeafTakesEntriesAgain();
        emptyLeafIsMergedLater();
        emptyRightSiblingIsGiven();
        emptyLeftSiblingIsGiven();
        emptyLeftSiblingIsMerged();
        emptyTreeOfSeveralPages();
        emptyTreeOfSeveralPagesIsUsedAgain();
        Due.end("RemoveEdgeTest");
    }

    private static String leaves(FrontCodedIndex x) {
        return Keys.level(x, x.height() - 1);
    }

    private static void removeAll(FrontCodedIndex x, String list) {
        for (String key : list.split(" ")) {
            Keys.remove(x, key);
        }
    }

    private static void removeCode(FrontCodedIndex x, int first, int end) {
        x.setKey(first, 1);
        x.swapBound();
        x.setKey(end, 1);
        x.removeRange();
    }

    /** "If the leaf is not the root and then smaller than P / 2". */
    private static void rootLeafIsNotMerged() {
        FrontCodedIndex x = Keys.loaded(64, 100, "a b");
        Keys.remove(x, "a");
        Due.is("10 one entry", Keys.tree(x), "16/1");
        Keys.remove(x, "b");
        Due.is("10 none", Keys.tree(x), "8/0");
        Due.is("10 no merge", x.statistic(4), 0);
    }

    /** "smaller than P / 2": a leaf of P / 2 stays, one of a byte less is merged. */
    private static void leafOfExactlyHalf() {
        FrontCodedIndex x = Keys.loaded(64, 100, "a b ccccccccc d e f g h i j");
        removeAll(x, "d e f");
        Due.is("10 before", leaves(x), "40/3 40/4");
        Keys.remove(x, "a");
        Due.is("10 32 stays", Keys.tree(x), "20/2 | 32/2 40/4");
        FrontCodedIndex y = Keys.loaded(64, 100, "a b cccccccc d e f g h i j");
        removeAll(y, "d e f");
        Due.is("10 before", leaves(y), "39/3 40/4");
        Keys.remove(y, "a");
        Due.is("10 31 doesn't", Keys.tree(y), "63/6");
        Due.is("10 one merge", y.statistic(4) - x.statistic(4), 1);
    }

    /** "P / 2, rounded down": 32 where P is 65. */
    private static void halfIsRoundedDown() {
        FrontCodedIndex x = Keys.loaded(65, 98, "a b ccccccccc d f g h i j");
        removeAll(x, "d f");
        Due.is("10 before", leaves(x), "40/3 40/4");
        Keys.remove(x, "a");
        Due.is("10 32 stays", Keys.tree(x), "20/2 | 32/2 40/4");
        FrontCodedIndex y = Keys.loaded(65, 98, "a b cccccccc d f g h i j");
        removeAll(y, "d f g");
        Due.is("10 before", leaves(y), "39/3 32/3");
        Keys.remove(y, "a");
        Due.is("10 31 doesn't", Keys.tree(y), "55/5");
    }

    /** "provided that there is such a sibling and the merged leaf would not be larger than P". */
    private static void mergedLeafOfExactlyP() {
        FrontCodedIndex x = Keys.loaded(64, 100, Keys.signs('a', 12));
        removeAll(x, "a b c d");
        Due.is("10 before", leaves(x), "32/3 48/5");
        Keys.remove(x, "e");
        Due.is("10 24 and 48 make P", Keys.tree(x), "64/7");
        FrontCodedIndex y = Keys.loaded(64, 100, "a b c d e f g h i j k ll");
        removeAll(y, "a b c d e");
        Due.is("10 24 and 49 make P + 1", leaves(y), "24/2 49/5");
        Due.is("10 no merge", y.statistic(4), 0);
        Keys.remove(y, "f");
        Due.is("10 16 and 49 don't", Keys.tree(y), "57/6");
    }

    /** The size of the merged leaf is less where its keys share bytes at the seam. */
    private static void mergedLeafSharesBytes() {
        FrontCodedIndex x = Keys.loaded(65, 100, "a b c d e f gx gy h i j k");
        removeAll(x, "a b c d");
        Due.is("10 before", leaves(x), "33/3 49/5");
        Keys.remove(x, "e");
        // 25 and 49 would make 66, but "gy" takes a byte less behind "gx".
        Due.is("10 merged", Keys.tree(x), "65/7");
    }

    /** "with its left sibling, or otherwise with its right sibling". */
    private static void leftBeforeRight() {
        FrontCodedIndex x = Keys.loaded(64, 63, Keys.signs('a', 12));
        removeAll(x, "e f");
        Due.is("10 with the left one", leaves(x), "56/6 40/4");
        Due.is("10 separator", Keys.allSeparators(x), "i");
    }

    /**
     * "If the leaf cannot be merged with its left sibling, since the merged one would be larger than P,
     * the right sibling is tried."
     */
    private static void rightWhereLeftIsTooLarge() {
        FrontCodedIndex x = Keys.loaded(64, 75, Keys.signs('a', 14));
        Keys.put(x, "aa", 1);
        Keys.put(x, "ab", 1);
        Due.is("10 before", leaves(x), "64/7 48/5 40/4");
        removeAll(x, "f g h");
        Due.is("10 with the right one", leaves(x), "64/7 56/6");
        Due.is("10 separator", Keys.allSeparators(x), "f");
    }

    /** "provided that there is such a sibling": the first leaf has none on its left. */
    private static void rightWhereNoneIsLeft() {
        FrontCodedIndex x = Keys.loaded(64, 63, Keys.signs('a', 12));
        removeAll(x, "a b");
        Due.is("10 with the right one", leaves(x), "56/6 40/4");
        Due.is("10 separator", Keys.allSeparators(x), "i");
    }

    /** "provided that there is such a sibling": the last leaf has none on its right. */
    private static void leftWhereNoneIsRight() {
        FrontCodedIndex x = Keys.loaded(64, 100, Keys.signs('a', 18));
        removeAll(x, "o p");
        Due.is("10 none fits", leaves(x), "64/7 64/7 24/2");
        Due.is("10 none is merged", x.statistic(4), 0);
        removeAll(x, "m n");
        Due.is("10 the middle one is large enough", leaves(x), "64/7 48/5 24/2");
        Keys.remove(x, "q");
        Due.is("10 with the left one", leaves(x), "64/7 56/6");
    }

    /** "it is merged, if possible": a small leaf stays between siblings that are too large. */
    private static void smallWhereBothAreTooLarge() {
        FrontCodedIndex x = Keys.loaded(64, 100, Keys.signs('a', 21));
        removeAll(x, "h i j k l m");
        Due.is("10 small", leaves(x), "64/7 16/1 64/7");
        Due.is("10 no merge", x.statistic(4), 0);
        Keys.remove(x, "n");
        Due.is("10 an empty one always fits", leaves(x), "64/7 64/7");
        Due.is("10 one merge", x.statistic(4), 1);
    }

    /** "The siblings of a page are the other children of its parent": not the leaf right of it. */
    private static void noRightSiblingInAnotherParent() {
        FrontCodedIndex x = PageTest.fifty();
        removeCode(x, 28, 32);
        removeCode(x, 21, 26);
        Due.is("10 the fourth stays small", leaves(x), "64/7 64/7 64/7 24/2 32/3 64/7 40/4 40/4");
        Due.is("10 no merge", x.statistic(4), 0);
    }

    /** "The siblings of a page are the other children of its parent": not the leaf left of it. */
    private static void noLeftSiblingInAnotherParent() {
        FrontCodedIndex x = PageTest.fifty();
        removeCode(x, 21, 25);
        removeCode(x, 28, 33);
        Due.is("10 the fifth stays small", leaves(x), "64/7 64/7 64/7 32/3 24/2 64/7 40/4 40/4");
        Due.is("10 no merge", x.statistic(4), 0);
    }

    /** "the right one is removed together with the separator of both": the other separators stay. */
    private static void onlyTheirSeparatorIsRemoved() {
        FrontCodedIndex x = Keys.loaded(64, 63, Keys.signs('a', 16));
        Due.is("10 before", Keys.allSeparators(x), "e i m");
        removeAll(x, "i j");
        Due.is("10 merged to the left", leaves(x), "40/4 56/6 40/4");
        Due.is("10 theirs is gone", Keys.allSeparators(x), "e m");
    }

    /** Two inner pages, of four leaves and of three, with long separators where keys share bytes. */
    private static FrontCodedIndex twoParents(String lasts, String firsts) {
        return Keys.loaded(64, 72, "a b c d e f g haa hab i j " + lasts + " l m n o p q " + firsts
                + " t u v w x y z");
    }

    /** "is smaller than P / 2, it is merged likewise": an inner page of P / 2 stays. */
    private static void parentOfExactlyHalf() {
        FrontCodedIndex x = twoParents("kaa kab", "r s");
        Due.is("10 before", Keys.tree(x), "20/2 | 40/4 28/3 | 40/4 42/4 44/4 42/4 40/4 40/4 40/4");
        removeAll(x, "a b");
        Due.is("10 32 stays", Keys.tree(x), "20/2 | 32/3 28/3 | 58/6 44/4 42/4 40/4 40/4 40/4");
        Due.is("10 one merge", x.statistic(4), 1);
        FrontCodedIndex y = twoParents("ka kb", "r s");
        Due.is("10 before", Keys.tree(y), "20/2 | 39/4 28/3 | 40/4 42/4 43/4 41/4 40/4 40/4 40/4");
        removeAll(y, "a b");
        Due.is("10 31 doesn't", Keys.tree(y), "55/6 | 58/6 43/4 41/4 40/4 40/4 40/4");
        Due.is("10 the root's separator is put between", Keys.allSeparators(y), "hab kb o s w");
        Due.is("10 two merges", y.statistic(4), 2);
    }

    /** "it is merged likewise": if the merged page would not be larger than P. */
    private static void mergedParentOfExactlyP() {
        String last = " { | } ~";
        FrontCodedIndex x = Keys.loaded(64, 72,
                "a b c d e f g haa hab i j ka kb l m n o p q sa sb t u v w x y z" + last);
        Due.is("10 before", Keys.level(x, 1), "39/4 37/4");
        removeAll(x, "a b");
        Due.is("10 31 and 37 make P", Keys.level(x, 0), "64/7");
        FrontCodedIndex y = Keys.loaded(64, 72,
                "a b c d e f g haa hab i j ka kb l m n o p q saa sab t u v w x y z" + last);
        Due.is("10 before", Keys.level(y, 1), "39/4 38/4");
        removeAll(y, "a b");
        Due.is("10 31 and 38 make P + 1", Keys.level(y, 1), "31/3 38/4");
        Due.is("10 one merge", y.statistic(4), 1);
    }

    private static FrontCodedIndex threeParents() {
        FrontCodedIndex x = Keys.loaded(64, 72, Keys.signs('0', 20)
                + " a b c d e f g haa hab i j ka kb l m n o p q r s t u v w x y z");
        Due.is("10 before", Keys.level(x, 0) + " | " + Keys.level(x, 1), "28/3 | 44/5 39/4 28/3");
        return x;
    }

    /** "with its left or its right sibling": the left one, though the right one would do. */
    private static void parentLeftBeforeRight() {
        FrontCodedIndex x = threeParents();
        removeAll(x, "0 1");
        Due.is("10 one child less", Keys.level(x, 1), "36/4 39/4 28/3");
        removeAll(x, "a b");
        Due.is("10 with the left one", Keys.level(x, 1), "63/7 28/3");
        Due.is("10 separators", Keys.allSeparators(x), "o | 8 < @ a hab kb, s w");
    }

    /** "with its left or its right sibling": the right one, where the left one is too large. */
    private static void parentRightWhereLeftIsTooLarge() {
        FrontCodedIndex x = threeParents();
        removeAll(x, "a b");
        Due.is("10 with the right one", Keys.level(x, 1), "44/5 55/6");
        Due.is("10 separators", Keys.allSeparators(x), "a | 4 8 < @, hab kb o s w");
    }

    /** "If the parent has lost a child thereby": a small one that has not isn't merged. */
    private static void parentWithoutLossStays() {
        FrontCodedIndex x = Keys.loaded(64, 75, Keys.signs('a', 30));
        Due.is("10 before", Keys.tree(x), "20/2 | 44/5 12/1 | 48/5 48/5 48/5 48/5 48/5 48/5");
        Keys.remove(x, "~");
        Due.is("10 12 stays, though 44 and 12 fit", Keys.level(x, 1), "44/5 12/1");
        removeAll(x, "z { | }");
        Due.is("10 with an empty leaf as well", Keys.level(x, 1), "44/5 12/1");
        Due.is("10 no merge", x.statistic(4), 0);
    }

    /** "If the parent has lost a child thereby, is not the root". */
    private static void rootOfTwoChildrenIsNotMerged() {
        FrontCodedIndex x = Keys.loaded(64, 63, Keys.signs('a', 12));
        removeAll(x, "a b");
        Due.is("10 a root smaller than P / 2", Keys.tree(x), "20/2 | 56/6 40/4");
        Due.is("10 one merge", x.statistic(4), 1);
    }

    /**
     * "This is repeated with the next parent. At last, as long as the root is an inner page with one
     * child, this child becomes the root."
     */
    private static void mergesUpToTheRoot() {
        FrontCodedIndex x = Keys.loaded(64, 40, Keys.signs('A', 32));
        Due.is("10 before", Keys.level(x, 0) + " | " + Keys.level(x, 1) + " | " + Keys.level(x, 2),
                "20/2 | 20/2 20/2 | 20/2 20/2 20/2 20/2");
        Keys.remove(x, "A");
        Due.is("10 four levels", x.height(), 4);
        Due.is("10 merged on each level", Keys.level(x, 0) + " | " + Keys.level(x, 1) + " | " + Keys.level(x, 2),
                "28/3 | 28/3 20/2 20/2 | 28/3 20/2 20/2 20/2 20/2 20/2 20/2");
        Due.is("10 first leaves", x.pageSize(3, 0) * 100 + x.pageSize(3, 1), 3224);
        Due.is("10 four merges", x.statistic(4), 4);
        Due.is("10 separators", Keys.allSeparators(x), "Q Y | I M, U, ] | E G, K, O, S, W, [, _");
    }

    /** "The siblings of a page are the other children of its parent", for inner pages as well. */
    private static void parentNotMergedWithLeftOfAnotherParent() {
        FrontCodedIndex x = Keys.loaded(64, 40, Keys.signs('A', 32));
        Keys.remove(x, "I");
        Due.is("10 not with the one of another parent", Keys.level(x, 2), "20/2 20/2 28/3 20/2 20/2 20/2 20/2");
        Due.is("10 above them", Keys.level(x, 0) + " | " + Keys.level(x, 1), "28/3 | 28/3 20/2 20/2");
    }

    /** "The siblings of a page are the other children of its parent", for inner pages as well. */
    private static void parentNotMergedWithRightOfAnotherParent() {
        // The limit is 46. The separators between the inner pages have twelve bytes and nine.
        FrontCodedIndex x = Keys.loaded(64, 72, Keys.signs('0', 18) + " Caaaaaaaaaa1 Caaaaaaaaaa2"
                + " a b e f g haa hab i j ka kb l naaaaaaa1 naaaaaaa2 o p q r s t u v w x");
        Due.is("10 before", Keys.level(x, 0) + " | " + Keys.level(x, 1) + " | " + Keys.level(x, 2),
                "28/2 | 31/2 12/1 | 44/5 39/4 28/3");
        removeAll(x, "a b");
        // 31 and 28 would make 63, but they have different parents; 44 and 31 are too large.
        Due.is("10 it stays", Keys.level(x, 0) + " | " + Keys.level(x, 1) + " | " + Keys.level(x, 2),
                "28/2 | 31/2 12/1 | 44/5 31/3 28/3");
        Due.is("10 one merge", x.statistic(4), 1);
    }

    /** Five leaves below one parent and an empty one, which was left alone, below another. */
    private static FrontCodedIndex withEmptyLast() {
        FrontCodedIndex x = Keys.loaded(64, 75, Keys.signs('a', 26));
        Keys.remove(x, "z");
        return x;
    }

    /** "A leaf without entries that has no sibling stays." */
    private static void emptyLeafWithoutSiblingStays() {
        FrontCodedIndex x = withEmptyLast();
        Due.is("10 it stays", Keys.tree(x), "20/2 | 44/5 12/1 | 48/5 48/5 48/5 48/5 48/5 8/0");
        Due.is("10 no merge", x.statistic(4), 0);
        Keys.set(x, "z");
        Due.thrown("9 nothing there", NoSuchElementException.class, x::get);
        Due.is("24 nor behind it", x.open(0), false);
        Due.is("27 before it", x.retreat(0), 24);
        Due.is("26 the end is next", x.advance(0), false);
        Due.is("13 all come before", x.rank(), 25);
    }

    /** An entry goes "into the leaf for its key", also if that leaf is empty. */
    private static void emptyLeafTakesEntriesAgain() {
        FrontCodedIndex x = withEmptyLast();
        Keys.put(x, "zz", 7);
        Due.is("8 into it", leaves(x), "48/5 48/5 48/5 48/5 48/5 17/1");
        Keys.put(x, "yz", 8);
        Due.is("8 below its separator", leaves(x), "48/5 48/5 48/5 48/5 56/6 17/1");
        Keys.remove(x, "zz");
        Due.is("10 empty again", leaves(x), "48/5 48/5 48/5 48/5 56/6 8/0");
    }

    /** The parents are merged, so that the empty leaf has a left sibling then. */
    private static FrontCodedIndex withEmptyRightSibling() {
        FrontCodedIndex x = withEmptyLast();
        removeAll(x, "a b c k l m");
        Due.is("10 merged", Keys.tree(x), "36/4 | 64/7 64/7 48/5 8/0");
        Due.is("10 separators", Keys.allSeparators(x), "k u z");
        return x;
    }

    /** "or otherwise with its right sibling": one without entries always fits. */
    private static void emptyLeafIsMergedLater() {
        FrontCodedIndex x = withEmptyRightSibling();
        int merges = x.statistic(4);
        removeAll(x, "u v w");
        Due.is("10 merged", Keys.tree(x), "28/3 | 64/7 64/7 24/2");
        Due.is("10 separators", Keys.allSeparators(x), "k u");
        Due.is("10 one merge", x.statistic(4) - merges, 1);
    }

    /** "are moved to the beginning of the right sibling", which has no entries. */
    private static void emptyRightSiblingIsGiven() {
        FrontCodedIndex x = withEmptyRightSibling();
        Keys.put(x, "ua", 1);
        Keys.put(x, "ub", 1);
        Due.is("8 full", leaves(x), "64/7 64/7 64/7 8/0");
        Keys.put(x, "uc", 1);
        Due.is("8 one given", leaves(x), "64/7 64/7 64/7 16/1");
        Due.is("8 separators", Keys.allSeparators(x), "k u y");
    }

    /** Twice seven leaves; the first seven are emptied, and six of them merged away. */
    private static FrontCodedIndex withEmptyLeftSibling() {
        FrontCodedIndex x = new FrontCodedIndex();
        x.setCapacity(64);
        for (int i = 0; i < 98; i++) {
            x.setKey(i, 1);
            x.queue(i);
        }
        x.load(100);
        removeCode(x, 0, 49);
        Due.is("11 the last of the first parent stays", Keys.tree(x),
                "20/2 | 12/1 60/7 | 8/0 64/7 64/7 64/7 64/7 64/7 64/7 64/7");
        removeCode(x, 70, 98);
        Due.is("11 the parents are merged", Keys.tree(x), "36/4 | 8/0 64/7 64/7 64/7");
        return x;
    }

    /** "the first j entries of the leaf are moved to the end of the left sibling", which has none. */
    private static void emptyLeftSiblingIsGiven() {
        FrontCodedIndex x = withEmptyLeftSibling();
        x.setKey(55 << 8 | 1, 2);
        x.put(1);
        Due.is("8 one given", Keys.tree(x), "36/4 | 16/1 64/7 64/7 64/7");
        x.separator(0, 0, 0);
        Due.is("8 separator anew", x.keyByte(0), 50);
    }

    /** "with its left sibling": "The left one of both gets all entries", though it has none. */
    private static void emptyLeftSiblingIsMerged() {
        FrontCodedIndex x = withEmptyLeftSibling();
        removeCode(x, 49, 54);
        Due.is("10 merged", Keys.tree(x), "28/3 | 24/2 64/7 64/7");
        x.separator(0, 0, 0);
        Due.is("10 the next separator", x.keyByte(0), 56);
    }

    /**
     * Eleven leaves of an entry each, in inner pages of two. The first and the last leaf are emptied
     * without a sibling, and come to have one when the inner pages are merged.
     */
    private static FrontCodedIndex withoutEntriesInTwoLeaves() {
        FrontCodedIndex x = Keys.loaded(64, 40, "axxxxxxa axxxxxxb bxxxxxxa bxxxxxxb cxxxxxxa cxxxxxxb "
                + "dxxxxxxa dxxxxxxb exxxxxxa exxxxxxb fxxxxxxa");
        removeAll(x, "cxxxxxxb cxxxxxxa exxxxxxa axxxxxxa fxxxxxxa axxxxxxb");
        Due.is("10 the first and the last are empty", Keys.tree(x),
                "28/3 | 12/1 58/5 12/1 | 8/0 23/1 23/1 23/1 23/1 23/1 8/0");
        removeAll(x, "bxxxxxxa dxxxxxxa exxxxxxb");
        Due.is("10 merged with the first inner page", Keys.tree(x), "20/2 | 35/3 12/1 | 8/0 23/1 23/1 8/0");
        Keys.remove(x, "bxxxxxxb");
        Due.is("10 and with the last", Keys.tree(x), "35/3 | 8/0 23/1 8/0");
        Due.is("10 separators", Keys.allSeparators(x), "dxxxxxxb f");
        Keys.remove(x, "dxxxxxxb");
        return x;
    }

    /** "A leaf without entries that has no sibling stays", and merging goes on for a removal alone. */
    private static void emptyTreeOfSeveralPages() {
        FrontCodedIndex x = withoutEntriesInTwoLeaves();
        Due.is("10 merged with the first leaf alone", Keys.tree(x), "20/2 | 8/0 8/0");
        Due.is("10 separator", Keys.allSeparators(x), "f");
        Due.is("12 no entry", x.size(), 0);
        Due.is("17 two levels", x.height(), 2);
        Due.is("22 all sizes", x.statistic(0), 36);
        Due.is("22 three pages", x.statistic(1), 3);
        Due.is("23 two leaves", x.occupancyBits(), Double.doubleToLongBits(12.5));
        Due.is("24 at the end", x.open(0), false);
        Due.thrown("27 none before it", NoSuchElementException.class, () -> x.retreat(0));
        Due.thrown("15 none", NoSuchElementException.class, x::floor);
        Due.is("33 no entry", x.saveSnapshot(), 0);
        Due.is("32 loading makes one leaf", x.load(100), 1);
        Due.is("34 no entry", x.restoreSnapshot(), 0);
        Due.is("34 but its pages", Keys.tree(x), "20/2 | 8/0 8/0");
    }

    /** "Throws IllegalStateException if the tree has entries": this one has none. */
    private static void emptyTreeOfSeveralPagesIsUsedAgain() {
        FrontCodedIndex x = withoutEntriesInTwoLeaves();
        Due.is("7 the capacity alone is set", x.setCapacity(80), 64);
        Due.is("7 the pages stay", Keys.tree(x), "20/2 | 8/0 8/0");
        Keys.put(x, "f", 1);
        Due.is("8 into the right leaf", Keys.tree(x), "20/2 | 8/0 16/1");
        Keys.put(x, "e", 2);
        Due.is("8 into the left leaf", Keys.tree(x), "20/2 | 16/1 16/1");
        Keys.remove(x, "e");
        Due.is("10 merged with the right one", Keys.tree(x), "16/1");
    }
}
