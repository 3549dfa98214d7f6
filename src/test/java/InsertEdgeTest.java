/**
 * The boundary cases of "Separators" and "Insertion" in the document's description, which promise 8
 * brings with it. A leaf of n keys of one sign that share nothing has 8 + 8 * n bytes, an inner page
 * of n children with separators of one sign 4 + 8 * n.
 */
public final class InsertEdgeTest {
    public static void main(String[] args) {
        leafOfExactlyP();
        keyEqualToSeparatorGoesRight();
        keyOutsideAllSeparators();
        givesLeftUpToP();
        givesLeftSharingBytes();
        givesLeftAsFewAsNeeded();
        givesLeftTheNewEntry();
        givesRightUpToP();
        givesRightAsFewAsNeeded();
        givesRightTheNewEntry();
        leftBeforeRight();
        rightBeforeSplit();
        noLeftSiblingInAnotherParent();
        noRightSiblingInAnotherParent();
        splitTakesSmallestOfEqual();
        splitLeavesOneEntry();
        splitCountsTheFirstKeyWhole();
        parentOfExactlyPAfterSplit();
        parentOfExactlyPAfterGivingLeft();
        parentOfExactlyPAfterGivingRight();
        parentIsSplitByBytes();
        parentTakesFirstOfEqual();
        grandparentIsSplit();
        separatorIsShortest();
        separatorOfWholeKey();
        separatorBehindEmptyKey();
        separatorStaysUnlessComputed();
        noPageIsLargerThanP();
        Due.end("InsertEdgeTest");
    }

    private static String leaves(FrontCodedIndex x) {
        return Keys.level(x, x.height() - 1);
    }

    private static int splits(FrontCodedIndex x) {
        return x.statistic(2);
    }

    private static int redistributions(FrontCodedIndex x) {
        return x.statistic(3);
    }

    /** "If the leaf is then larger than P": one as large as P stays as it is. */
    private static void leafOfExactlyP() {
        FrontCodedIndex x = new FrontCodedIndex();
        x.setCapacity(65);
        Keys.putAll(x, "a b c d e f gg");
        Due.is("8 65 of 65", Keys.tree(x), "65/7");
        FrontCodedIndex y = new FrontCodedIndex();
        y.setCapacity(64);
        Keys.putAll(y, "a b c d e f gg");
        // 8 + 4 * 8 and 8 + 2 * 8 + 9.
        Due.is("8 65 of 64", Keys.tree(y), "20/2 | 40/4 33/3");
    }

    /**
     * "the child that has as many separators before it as there are separators in the page that are not
     * greater than the key".
     */
    private static void keyEqualToSeparatorGoesRight() {
        FrontCodedIndex x = Keys.loaded(64, 63, Keys.signs('a', 8));
        Keys.remove(x, "e");
        Due.is("10 before", Keys.tree(x), "20/2 | 40/4 32/3");
        Due.is("10 the separator isn't an entry now", Keys.allSeparators(x), "e");
        Keys.put(x, "e", 1);
        Due.is("8 to the right", leaves(x), "40/4 40/4");
        Keys.put(x, "d\177", 1);
        Due.is("8 the greatest below it to the left", leaves(x), "48/5 40/4");
    }

    /** A key less than each separator, and one greater than each, on each level. */
    private static void keyOutsideAllSeparators() {
        FrontCodedIndex x = Keys.loaded(64, 40, Keys.signs('A', 32));
        Keys.put(x, "", 1);
        Keys.put(x, "\177", 1);
        Due.is("17 five levels", x.height(), 5);
        Due.is("8 into the first leaf", x.pageSize(4, 0), 31);
        Due.is("8 into the last leaf", x.pageSize(4, 15), 32);
    }

    /** "This is possible if the left sibling is not larger than P then." */
    private static void givesLeftUpToP() {
        FrontCodedIndex x = Keys.loaded(64, 100, Keys.signs('a', 14));
        Keys.remove(x, "a");
        Due.is("8 before", leaves(x), "56/6 64/7");
        Keys.put(x, "o", 1);
        Due.is("8 the left one has P", leaves(x), "64/7 64/7");
        Due.is("8 counted", redistributions(x) * 10 + splits(x), 10);
        FrontCodedIndex y = Keys.loaded(64, 100, "a b c d e f g ha i j k l m");
        Keys.remove(y, "a");
        Due.is("8 before", leaves(y), "56/6 57/6");
        Keys.put(y, "n", 1);
        // The left sibling would have 56 + 9, so the leaf of 65 is split.
        Due.is("8 the left one would have P + 1", leaves(y), "56/6 33/3 40/4");
        Due.is("8 counted", redistributions(y) * 10 + splits(y), 1);
    }

    /** The first entry that is moved shares with the last of the left sibling. */
    private static void givesLeftSharingBytes() {
        FrontCodedIndex x = Keys.loaded(65, 100, "a b c d e f hx hy i j k l m n");
        Keys.remove(x, "a");
        Due.is("8 before", leaves(x), "57/6 65/7");
        Keys.put(x, "o", 1);
        // "hy" takes 9 bytes at the beginning of its leaf, and 8 behind "hx".
        Due.is("8 57 + 8", leaves(x), "65/7 64/7");
        Due.is("8 separator", Keys.allSeparators(x), "i");
    }

    /** "where j is the smallest number with which the leaf is not larger than P". */
    private static void givesLeftAsFewAsNeeded() {
        FrontCodedIndex x = Keys.loaded(64, 100, Keys.signs('a', 14));
        Keys.range(x, "", "e");
        x.removeRange();
        Keys.put(x, "o", 1);
        Due.is("8 one, though there is room for four", leaves(x), "40/4 64/7");
        FrontCodedIndex y = Keys.loaded(64, 100, Keys.signs('a', 14));
        Keys.range(y, "", "c");
        y.removeRange();
        Keys.put(y, "oo", 1);
        // 64 + 9 - 8 is P + 1 still.
        Due.is("8 two", leaves(y), "64/7 57/6");
        Due.is("8 as one redistribution", redistributions(y), 1);
    }

    /** "the first j entries of the leaf": the new entry can be one of them. */
    private static void givesLeftTheNewEntry() {
        FrontCodedIndex x = Keys.loaded(64, 100, Keys.signs('a', 14));
        Keys.remove(x, "a");
        Keys.remove(x, "h");
        Keys.put(x, "o", 1);
        Due.is("8 before", leaves(x), "56/6 64/7");
        Keys.put(x, "h", 99);
        Due.is("8 given", leaves(x), "64/7 64/7");
        Due.is("8 separator", Keys.allSeparators(x), "i");
        Keys.set(x, "h");
        Due.is("9 found", x.get(), 99);
    }

    /** "likewise, the last j entries of the leaf are moved to the beginning of the right sibling." */
    private static void givesRightUpToP() {
        FrontCodedIndex x = Keys.loaded(65, 100, "a b c d e f gg h i j k l m");
        Due.is("8 before", leaves(x), "65/7 56/6");
        Keys.put(x, "aa", 1);
        Due.is("8 the right one has P", leaves(x), "64/7 65/7");
        Due.is("8 separator", Keys.allSeparators(x), "g");
        Due.is("8 counted", redistributions(x) * 10 + splits(x), 10);
        FrontCodedIndex y = Keys.loaded(65, 100, "a b c d e f gg ha i j k l m");
        Due.is("8 before", leaves(y), "65/7 57/6");
        Keys.put(y, "aa", 1);
        Due.is("8 the right one would have P + 1", leaves(y), "40/4 41/4 57/6");
        Due.is("8 counted", redistributions(y) * 10 + splits(y), 1);
    }

    /** "where j is the smallest number with which the leaf is not larger than P". */
    private static void givesRightAsFewAsNeeded() {
        FrontCodedIndex x = Keys.loaded(64, 100, Keys.signs('a', 11));
        Keys.put(x, "aa", 1);
        Due.is("8 one, though there is room for three", leaves(x), "64/7 48/5");
        FrontCodedIndex y = Keys.loaded(64, 100, Keys.signs('a', 11));
        Keys.put(y, "abc", 1);
        // 64 + 9 - 8 is P + 1 still.
        Due.is("8 two", leaves(y), "57/6 56/6");
        Due.is("8 separator", Keys.allSeparators(y), "f");
        Due.is("8 as one redistribution", redistributions(y), 1);
    }

    /** "the last j entries of the leaf": the new entry can be one of them. */
    private static void givesRightTheNewEntry() {
        FrontCodedIndex x = Keys.loaded(64, 100, Keys.signs('a', 12));
        Due.is("8 before", leaves(x), "64/7 48/5");
        Keys.put(x, "gg", 99);
        // Behind "g" it takes 8 bytes, and 9 at the beginning of the right leaf.
        Due.is("8 given", leaves(x), "64/7 57/6");
        Due.is("8 separator", Keys.allSeparators(x), "gg");
        Keys.set(x, "gg");
        Due.is("9 found", x.get(), 99);
    }

    /** "the first of the following steps that is possible is done": left, though right is possible. */
    private static void leftBeforeRight() {
        FrontCodedIndex x = Keys.loaded(64, 100, Keys.signs('a', 19));
        Keys.remove(x, "a");
        Due.is("8 before", leaves(x), "56/6 64/7 48/5");
        Keys.put(x, "nn", 1);
        Due.is("8 to the left", leaves(x), "64/7 64/7 48/5");
    }

    /** "the first of the following steps that is possible is done": right, where left is not. */
    private static void rightBeforeSplit() {
        FrontCodedIndex x = Keys.loaded(64, 100, Keys.signs('a', 19));
        Keys.put(x, "hh", 1);
        Due.is("8 to the right", leaves(x), "64/7 64/7 56/6");
        Keys.put(x, "hi", 1);
        Due.is("8 once more", leaves(x), "64/7 64/7 64/7");
        Keys.put(x, "hj", 1);
        Due.is("8 split", leaves(x), "64/7 40/4 40/4 64/7");
        Due.is("8 counted", redistributions(x) * 10 + splits(x), 21);
    }

    /** "The siblings of a page are the other children of its parent": not the leaf left of it. */
    private static void noLeftSiblingInAnotherParent() {
        FrontCodedIndex x = PageTest.fifty();
        for (int gone : new int[] {21, 22}) {
            x.setKey(gone, 1);
            x.remove();
        }
        x.setKey(28 << 8 | 1, 2);
        x.put(1);
        Due.is("8 the fourth leaf gets none", leaves(x), "64/7 64/7 64/7 48/5 40/4 40/4 64/7 40/4 40/4");
    }

    /** "The siblings of a page are the other children of its parent": not the leaf right of it. */
    private static void noRightSiblingInAnotherParent() {
        FrontCodedIndex x = PageTest.fifty();
        for (int gone : new int[] {33, 34}) {
            x.setKey(gone, 1);
            x.remove();
        }
        x.setKey(21 << 8 | 1, 2);
        x.put(1);
        Due.is("8 the next leaf gets none", leaves(x), "64/7 64/7 64/7 40/4 40/4 48/5 64/7 40/4 40/4");
    }

    /** "and among several such m the smallest one is taken": 40 and 48, not 48 and 40. */
    private static void splitTakesSmallestOfEqual() {
        FrontCodedIndex x = new FrontCodedIndex();
        x.setCapacity(72);
        Keys.putAll(x, Keys.signs('a', 8));
        Keys.put(x, "aa", 1);
        Due.is("8 four and five", Keys.tree(x), "20/2 | 40/4 48/5");
        Due.is("8 separator", Keys.allSeparators(x), "d");
    }

    /** "and among several such m the smallest one is taken": 1, the least that there is. */
    private static void splitLeavesOneEntry() {
        FrontCodedIndex x = new FrontCodedIndex();
        x.setCapacity(64);
        Keys.putAll(x, "aaaaaaaaaaaa bbbbbbbbbbbb cccccccccccc");
        // 8 + 3 * 19 is P + 1; 27 and 46 differ as 46 and 27 do.
        Due.is("8 one and two", Keys.tree(x), "20/2 | 27/1 46/2");
        Due.is("8 separator", Keys.allSeparators(x), "b");
    }

    /** "the difference of the sizes of both leaves is as small as possible", as they are then. */
    private static void splitCountsTheFirstKeyWhole() {
        FrontCodedIndex x = new FrontCodedIndex();
        x.setCapacity(64);
        for (char last = '1'; last <= '6'; last++) {
            Keys.put(x, "aaaaaaaaaaa" + last, last);
        }
        // 8 + 19 + 5 * 8 is too large; each of both leaves has a first key of 19.
        Due.is("8 three and three", Keys.tree(x), "31/2 | 43/3 43/3");
    }

    /** "If the parent is then larger than P, it is split", behind step 3. */
    private static void parentOfExactlyPAfterSplit() {
        String left = "0 1 2 3 4 5 6 7 8 9 : ; < = k l ";
        String right = " n o p q r s t u v w x y z { | } ~";
        FrontCodedIndex x = Keys.loaded(64, 100, left + "maaaa maaab" + right);
        Due.is("8 before", Keys.tree(x), "52/6 | 64/7 64/7 60/6 64/7 64/7 16/1");
        Keys.put(x, "oo", 1);
        Due.is("8 as large as P", Keys.tree(x), "64/7 | 64/7 64/7 36/3 44/4 64/7 64/7 16/1");
        Due.is("8 separators", Keys.allSeparators(x), "7 k maaab p w ~");
        FrontCodedIndex y = Keys.loaded(64, 100, left + "maaaaa maaaab" + right);
        Keys.put(y, "oo", 1);
        Due.is("8 larger than P", Keys.tree(y), "25/2 | 28/3 36/4 | 64/7 64/7 37/3 45/4 64/7 64/7 16/1");
        Due.is("8 separators", Keys.allSeparators(y), "maaaab | 7 k, p w ~");
    }

    /** "The parent is looked at behind each of the three steps", behind step 1. */
    private static void parentOfExactlyPAfterGivingLeft() {
        String right = " 8 9 : ; < = > ? @ A B C D E F G H I J K L M N O P Q R S T U V W X Y Z";
        FrontCodedIndex x = Keys.loaded(64, 100, "0 1 2 3 4 5 6 7aaaa 7aaab" + right);
        Keys.remove(x, "0");
        Keys.remove(x, "1");
        Due.is("8 before", Keys.tree(x), "60/7 | 48/5 60/6 64/7 64/7 64/7 64/7 32/3");
        Keys.put(x, ";;", 1);
        Due.is("8 as large as P", Keys.tree(x), "64/7 | 60/6 60/6 64/7 64/7 64/7 64/7 32/3");
        FrontCodedIndex y = Keys.loaded(64, 100, "0 1 2 3 4 5 6 7aaaaa 7aaaab" + right);
        Keys.remove(y, "0");
        Keys.remove(y, "1");
        Keys.put(y, ";;", 1);
        Due.is("8 larger than P", Keys.tree(y), "20/2 | 33/3 36/4 | 61/6 61/6 64/7 64/7 64/7 64/7 32/3");
        Due.is("8 separators", Keys.allSeparators(y), "C | 7aaaab <, J Q X");
        Due.is("8 counted", redistributions(y) * 10 + splits(y), 11);
    }

    /** "The parent is looked at behind each of the three steps", behind step 2. */
    private static void parentOfExactlyPAfterGivingRight() {
        String right = " 5 6 7 8 9 : ; < = > ? @ A B C D E F G H I J K L M N O P Q R S T U V W X Y Z";
        FrontCodedIndex x = Keys.loaded(64, 100, "0 1 2 3 4aaaa 4aaab" + right);
        Keys.remove(x, ":");
        Keys.remove(x, ";");
        Due.is("8 before", Keys.tree(x), "60/7 | 60/6 48/5 64/7 64/7 64/7 64/7 32/3");
        Keys.put(x, "00", 1);
        Due.is("8 as large as P", Keys.tree(x), "64/7 | 60/6 60/6 64/7 64/7 64/7 64/7 32/3");
        FrontCodedIndex y = Keys.loaded(64, 100, "0 1 2 3 4aaaaa 4aaaab" + right);
        Keys.remove(y, ":");
        Keys.remove(y, ";");
        Keys.put(y, "00", 1);
        Due.is("8 larger than P", Keys.tree(y), "20/2 | 33/3 36/4 | 61/6 61/6 64/7 64/7 64/7 64/7 32/3");
        Due.is("8 separators", Keys.allSeparators(y), "C | 4aaaab <, J Q X");
        Due.is("8 counted", redistributions(y) * 10 + splits(y), 11);
    }

    /** "the difference of the sizes of both pages is as small as possible": not that of their children. */
    private static void parentIsSplitByBytes() {
        FrontCodedIndex x = Keys.loaded(64, 100,
                "0 1 2 3 Aaaaaaaaa1 Aaaaaaaaa2 B BB Caaaaaaaa1 Caaaaaaaa2 D E F G " + Keys.signs('H', 14));
        Due.is("8 before", Keys.tree(x), "62/5 | 57/5 58/4 57/5 64/7 64/7");
        Keys.put(x, "UU", 1);
        Due.is("8 two children and four", Keys.tree(x), "29/2 | 29/2 36/4 | 57/5 58/4 57/5 64/7 40/4 40/4");
        Due.is("8 separators", Keys.allSeparators(x), "Caaaaaaaa2 | Aaaaaaaaa2, H O S");
    }

    /**
     * "so that the difference of the sizes of both pages is as small as possible, the first such
     * separator being taken".
     */
    private static void parentTakesFirstOfEqual() {
        FrontCodedIndex x = Keys.loaded(72, 100, Keys.signs('0', 64));
        Due.is("8 before", Keys.level(x, 0), "68/8");
        Keys.put(x, "~", 1);
        Due.is("8 four and five children", Keys.level(x, 0) + " | " + Keys.level(x, 1), "20/2 | 36/4 44/5");
        Due.is("8 the fourth separator", Keys.separators(x, 0, 0), "P");
    }

    /** "This is repeated with the next parent. When the root is split, a new root is made". */
    private static void grandparentIsSplit() {
        StringBuilder list = new StringBuilder();
        for (char sign = 'a'; sign <= 'i'; sign++) {
            for (char last = '1'; last <= '3'; last++) {
                list.append(sign).append("aaaaaaaaaa").append(last).append(' ');
            }
            list.append((char) (sign + 1)).append("aaaaaaaaaa0 ");
        }
        FrontCodedIndex x = Keys.loaded(64, 100, list.toString().trim());
        String full = " 62/4 62/4 62/4 62/4 62/4 62/4 62/4 62/4";
        Due.is("8 before", Keys.tree(x), "50/3 | 50/3 50/3 50/3 | 62/4" + full);
        Keys.put(x, "aaaaaaaaaaa4", 1);
        Due.is("8 on each level", Keys.tree(x), "31/2 | 31/2 31/2 | 31/2 31/2 50/3 50/3 | 43/3 46/2" + full);
        Due.is("8 three splits", splits(x), 3);
        x.separator(0, 0, 0);
        Due.is("8 the new root's separator", Keys.get(x), "daaaaaaaaaa1");
    }

    /**
     * "the shortest prefix of the first key of the right leaf that is greater than the last key of the
     * left leaf".
     */
    private static void separatorIsShortest() {
        FrontCodedIndex x = Keys.loaded(64, 40, "aaaab abcdefghijkl abz bcdefghijkl c");
        Due.is("32 leaves", leaves(x), "20/1 27/1 18/1 26/1 16/1");
        Due.is("32 separators", Keys.allSeparators(x), "c | abz,  | ab, b, ");
    }

    /** Where the left key is a proper prefix of the right one, or differs in the last byte alone. */
    private static void separatorOfWholeKey() {
        FrontCodedIndex x = Keys.loaded(64, 40, "abcdefghijk abcdefghijkl abcdefghijkm");
        Due.is("32 leaves", leaves(x), "26/1 27/1 27/1");
        x.separator(1, 0, 0);
        Due.is("32 one byte more than the prefix", Keys.get(x), "abcdefghijkl");
        x.separator(0, 0, 0);
        Due.is("32 another last byte", Keys.get(x), "abcdefghijkm");
    }

    /** "A key is a sequence of 0 to 12 bytes": one byte is greater than the empty key. */
    private static void separatorBehindEmptyKey() {
        FrontCodedIndex x = Keys.loaded(64, 40, " abcd");
        Due.is("32 leaves", Keys.tree(x), "20/2 | 15/1 19/1");
        Due.is("32 separator", Keys.allSeparators(x), "a");
    }

    /** "Whenever a separator of two leaves is computed": by the three steps, and nothing else. */
    private static void separatorStaysUnlessComputed() {
        FrontCodedIndex x = Keys.loaded(64, 63, "a b c d eeee f g h i j k l");
        Due.is("32 leaves", leaves(x), "40/4 35/3 40/4 16/1");
        Due.is("32 separators", Keys.allSeparators(x), "e h l");
        Keys.remove(x, "d");
        Keys.put(x, "d\177", 1);
        Keys.put(x, "ee", 1);
        Keys.remove(x, "h");
        Due.is("8 other leaves", leaves(x), "41/4 42/4 32/3 16/1");
        Due.is("8 the same separators", Keys.allSeparators(x), "e h l");
    }

    /** "No page is larger than P when a method returns." */
    private static void noPageIsLargerThanP() {
        for (int n = 5; n <= 55; n += 5) {
            FrontCodedIndex x = new FrontCodedIndex();
            x.setCapacity(64);
            for (int i = 0; i < n; i++) {
                int place = i * 37 % 55;
                Keys.put(x, (char) (97 + place / 8) + "bcdefghij" + (char) (97 + place % 8 / 4) + place % 4, i);
            }
            Due.is("8 entries", x.size(), n);
            int largest = 0;
            for (int level = 0; level < x.height(); level++) {
                for (int page = 0; page < x.pageCount(level); page++) {
                    largest = Math.max(largest, x.pageSize(level, page));
                }
            }
            Due.is("8 the largest page of " + n + " entries", largest <= 64, true);
        }
    }
}
