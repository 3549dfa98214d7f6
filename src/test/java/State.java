/** Everything that the face tells of an index, so that two of them can be compared. */
final class State {
    private State() {
    }

    /** Uses the index up: its tree, load list, key and bound are others then. */
    static String of(FrontCodedIndex x) {
        StringBuilder text = new StringBuilder();
        text.append("key '").append(Keys.get(x));
        x.swapBound();
        text.append("' bound '").append(Keys.get(x)).append("'\n");
        for (int cursor = 0; cursor < 4; cursor++) {
            text.append("cursor ").append(cursor).append(": ").append(place(x, cursor)).append('\n');
        }
        text.append("counts ").append(x.statistic(2)).append(' ').append(x.statistic(3));
        text.append(' ').append(x.statistic(4)).append('\n');
        text.append("tree ").append(tree(x)).append('\n');
        text.append("snapshot ").append(snapshot(x)).append('\n');
        x.load(100);
        return text.append("load list ").append(tree(x)).append('\n').toString();
    }

    private static String place(FrontCodedIndex x, int cursor) {
        try {
            int value = x.current(cursor);
            return Keys.get(x) + "=" + value + " behind " + x.rank();
        } catch (RuntimeException e) {
            return e.getClass().getSimpleName();
        }
    }

    private static String snapshot(FrontCodedIndex x) {
        try {
            x.restoreSnapshot();
        } catch (RuntimeException e) {
            return e.getClass().getSimpleName();
        }
        return tree(x);
    }

    /** The bits of the occupancy tell the capacity, since the sizes are told as well. */
    private static String tree(FrontCodedIndex x) {
        StringBuilder text = new StringBuilder(Keys.tree(x));
        text.append(" occupied ").append(x.occupancyBits());
        text.append(" separators ").append(Keys.allSeparators(x)).append(" entries");
        for (int i = 0; i < x.size(); i++) {
            int value = x.select(i);
            text.append(" '").append(Keys.get(x)).append("'=").append(value);
        }
        return text.toString();
    }
}
