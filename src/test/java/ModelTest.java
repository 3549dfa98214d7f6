import java.util.Map;
import java.util.TreeMap;

/**
 * Long runs of calls, mixed by a fixed rule, on the class and on the model: all answers and
 * exceptions have to be the same. Arguments: how many runs, and how many calls each.
 */
public final class ModelTest {
    private static final int RUNS = 1750;
    private static final int CALLS = 512;

    private final FrontCodedIndex real = new FrontCodedIndex();
    private final Model model = new Model();
    private final StringBuilder told = new StringBuilder();
    private final String style;
    private long state;
    private int calls = 0;
    private int limit;
    private boolean agreed = true;
    private String last = "";

    private static final Map<String, Integer> SEEN = new TreeMap<>();

    private interface Answer {
        long of();
    }

    private ModelTest(long seed, int limit, String style) {
        this.state = seed * 0x9E3779B97F4A7C15L + 12345;
        this.limit = limit;
        this.style = style;
    }

    public static void main(String[] args) {
        int runs = args.length > 0 ? Integer.parseInt(args[0]) : RUNS;
        int calls = args.length > 1 ? Integer.parseInt(args[1]) : CALLS;
        String[] styles = {"short", "prefix", "twins", "load", "mixed", "ascend", "drain"};
        for (int run = 0; run < runs; run++) {
            ModelTest test = new ModelTest(run, calls, styles[run % styles.length]);
            test.run();
            Due.is("run " + run + " of style " + test.style + " agrees", test.agreed, true);
            if (!test.agreed) {
                System.out.println(test.told);
                break;
            }
        }
        System.out.println("seen: " + SEEN);
        for (String what : new String[] {"splits", "redistributions", "merges", "height 4", "empty leaf",
            "single child", "several pages without entries"}) {
            if (runs >= RUNS && calls >= CALLS) {
                Due.is("the runs come to see " + what, SEEN.containsKey(what), true);
            }
        }
        Due.end("ModelTest");
    }

    private int pick(int n) {
        state = state * 6364136223846793005L + 1442695040888963407L;
        return (int) ((state >>> 33) % n);
    }

    private void run() {
        if (pick(4) > 0) {
            int p = pick(3) == 0 ? 64 + pick(137) : 64 + pick(30);
            same("setCapacity " + p, () -> real.setCapacity(p), () -> model.setCapacity(p));
        }
        if (style.equals("load")) {
            loadMany(20 + pick(100), pick(2) == 0 ? 40 + pick(10) : 40 + pick(61));
        }
        if (style.equals("drain")) {
            loadMany(40 + pick(30), 40);
            drain();
        }
        int growth = pick(3);
        while (agreed && calls < limit - 60) {
            int phase = pick(10);
            if (phase < 4 + growth) {
                putSome(1 + pick(8));
            } else if (phase < 8) {
                removeSome(1 + pick(8));
            } else {
                for (int i = 0; i < 6; i++) {
                    any();
                }
            }
            if (pick(60) == 0) {
                removeMost();
            }
            look();
        }
        while (agreed && calls < limit) {
            any();
        }
        note();
    }

    private void note() {
        for (int what = 2; what < 5; what++) {
            if (model.statistic(what) > 0) {
                saw(new String[] {"splits", "redistributions", "merges"}[what - 2]);
            }
        }
    }

    private void saw(String what) {
        SEEN.merge(what, 1, Integer::sum);
    }

    /** What the model's pages look like; its calls don't count. */
    private void look() {
        int height = model.height();
        saw("height " + height);
        for (int page = 0; height > 1 && page < model.pageCount(height - 1); page++) {
            if (model.pageFanout(height - 1, page) == 0) {
                saw("empty leaf");
            }
        }
        for (int page = 0; height > 2 && page < model.pageCount(height - 2); page++) {
            if (model.pageFanout(height - 2, page) == 1) {
                saw("single child");
            }
        }
        if (height > 1 && model.size() == 0) {
            saw("several pages without entries");
        }
        String broken = model.broken();
        if (!broken.isEmpty()) {
            agreed = false;
            told.append(broken).append('\n');
        }
    }

    private void same(String call, Answer ofReal, Answer ofModel) {
        if (!agreed || calls >= limit) {
            return;
        }
        calls++;
        String got = answer(ofReal);
        String want = answer(ofModel);
        told.append(call).append(" -> ").append(got).append('\n');
        if (!got.equals(want)) {
            told.append("due is ").append(want).append('\n');
            agreed = false;
        }
    }

    private static String answer(Answer call) {
        try {
            return Long.toString(call.of());
        } catch (RuntimeException e) {
            return e.getClass().getName() + Due.byTheLibrary(e);
        }
    }

    private static long bit(boolean b) {
        return b ? 1 : 0;
    }

    private void setKey(String text) {
        int first = Math.min(text.length(), 8);
        long code = 0;
        for (int i = 0; i < first; i++) {
            code = code << 8 | text.charAt(i);
        }
        long whole = code;
        same("setKey " + code + " " + first, () -> real.setKey(whole, first), () -> model.setKey(whole, first));
        for (int i = first; i < text.length(); i++) {
            int b = text.charAt(i);
            same("feed " + b, () -> real.feed(b), () -> model.feed(b));
        }
    }

    private String random(int alphabet, int most) {
        StringBuilder text = new StringBuilder();
        int length = pick(most + 1);
        for (int i = 0; i < length; i++) {
            text.append((char) (97 + pick(alphabet)));
        }
        return text.toString();
    }

    private String nextKey() {
        switch (style) {
            case "short":
                return random(26, 2);
            case "prefix":
                return random(2, 12);
            case "twins": case "drain":
                // Neighbours that differ in the last byte alone, so that separators are long.
                return "" + (char) (97 + pick(20)) + "xxxxxx" + (char) (97 + pick(4));
            case "ascend":
                last = last.length() < 8 && pick(3) > 0 ? last + (char) (97 + pick(3)) : raised(last);
                return last;
            case "load":
                return pick(2) == 0 ? random(3, 12) : (char) (97 + pick(26)) + random(2, 11);
            default:
                return pick(3) == 0 ? random(128 - 97, 5) : pick(2) == 0 ? random(2, 8) : random(4, 4);
        }
    }

    private static String raised(String text) {
        for (int i = text.length() - 1; i >= 0; i--) {
            if (text.charAt(i) < 122) {
                return text.substring(0, i) + (char) (text.charAt(i) + 1);
            }
        }
        return "a";
    }

    private void putSome(int n) {
        for (int i = 0; i < n; i++) {
            setKey(nextKey());
            int value = pick(1000);
            same("put " + value, () -> bit(real.put(value)), () -> bit(model.put(value)));
        }
    }

    private void removeSome(int n) {
        for (int i = 0; i < n && model.size() > 0; i++) {
            if (pick(3) == 0) {
                int cursor = pick(4);
                same("removeAt " + cursor, () -> real.removeAt(cursor), () -> model.removeAt(cursor));
            } else {
                int entry = pick(model.size());
                same("select " + entry, () -> real.select(entry), () -> model.select(entry));
                same("remove", real::remove, model::remove);
            }
        }
    }

    /** All entries but a few go, from one side or from both. */
    private void removeMost() {
        if (model.size() < 3) {
            return;
        }
        if (pick(2) == 0) {
            setKey("");
            same("swapBound", real::swapBound, model::swapBound);
            int most = pick(3) == 0 ? model.size() - 1 : pick(model.size());
            same("select " + most, () -> real.select(most), () -> model.select(most));
        } else {
            int least = pick(3);
            same("select " + least, () -> real.select(least), () -> model.select(least));
            same("swapBound", real::swapBound, model::swapBound);
            setKey("\u007f");
        }
        same("removeRange", real::removeRange, model::removeRange);
    }

    /** Small leaves that go one by one, in no order, can leave empty ones behind below several parents. */
    private void drain() {
        while (agreed && model.size() > 0 && calls < limit) {
            int entry = pick(model.size());
            same("select " + entry, () -> real.select(entry), () -> model.select(entry));
            same("remove", real::remove, model::remove);
        }
        look();
    }

    private void loadMany(int n, int fill) {
        TreeMap<String, Integer> list = new TreeMap<>();
        for (int i = 0; i < n; i++) {
            list.put(nextKey(), i);
        }
        for (Map.Entry<String, Integer> entry : list.entrySet()) {
            setKey(entry.getKey());
            int value = entry.getValue();
            same("queue " + value, () -> real.queue(value), () -> model.queue(value));
        }
        same("load " + fill, () -> real.load(fill), () -> model.load(fill));
        look();
    }

    private void any() {
        int cursor = pick(8) == 0 ? pick(8) - 2 : pick(4);
        int level = pick(10) == 0 ? pick(12) - 2 : pick(model.height());
        int page = level < 0 || level >= model.height() || pick(10) == 0 ? pick(30) - 3 : pick(model.pageCount(level));
        int number = pick(12) - 2;
        switch (pick(34)) {
            case 0: same("feed " + number, () -> real.feed(number * 12), () -> model.feed(number * 12)); break;
            case 1: setKey(nextKey()); break;
            case 2: same("cutKey " + number, () -> real.cutKey(number), () -> model.cutKey(number)); break;
            case 3: same("keyByte " + number, () -> real.keyByte(number), () -> model.keyByte(number)); break;
            case 4: same("swapBound", real::swapBound, model::swapBound); break;
            case 5: same("setCapacity", () -> real.setCapacity(60 + number * 10), () -> model.setCapacity(60 + number * 10)); break;
            case 6: same("put " + number, () -> bit(real.put(number)), () -> bit(model.put(number))); break;
            case 7: same("get", real::get, model::get); break;
            case 8: same("remove", real::remove, model::remove); break;
            case 9: if (pick(6) == 0) { same("removeRange", real::removeRange, model::removeRange); } break;
            case 10: same("size", real::size, model::size); break;
            case 11: same("rank", real::rank, model::rank); break;
            case 12: int i = pick(model.size() + 2) - 1; same("select " + i, () -> real.select(i), () -> model.select(i)); break;
            case 13: same("floor", real::floor, model::floor); break;
            case 14: same("countPrefix", real::countPrefix, model::countPrefix); break;
            case 15: same("height", real::height, model::height); break;
            case 16: same("pageCount " + level, () -> real.pageCount(level), () -> model.pageCount(level)); break;
            case 17: same("pageSize " + level + " " + page, () -> real.pageSize(level, page), () -> model.pageSize(level, page)); break;
            case 18: same("pageFanout " + level + " " + page, () -> real.pageFanout(level, page), () -> model.pageFanout(level, page)); break;
            case 19: case 20: int k = pick(5) - (pick(5) == 0 ? 2 : 0); same("separator " + level + " " + page + " " + k, () -> real.separator(level, page, k), () -> model.separator(level, page, k)); break;
            case 21: case 22: int what = pick(7) - 1; same("statistic " + what, () -> real.statistic(what), () -> model.statistic(what)); break;
            case 23: same("occupancyBits", real::occupancyBits, model::occupancyBits); break;
            case 24: case 25: same("open " + cursor, () -> bit(real.open(cursor)), () -> bit(model.open(cursor))); break;
            case 26: if (pick(3) == 0) { same("close " + cursor, () -> bit(real.close(cursor)), () -> bit(model.close(cursor))); } break;
            case 27: same("advance " + cursor, () -> bit(real.advance(cursor)), () -> bit(model.advance(cursor))); break;
            case 28: same("retreat " + cursor, () -> real.retreat(cursor), () -> model.retreat(cursor)); break;
            case 29: same("current " + cursor, () -> real.current(cursor), () -> model.current(cursor)); break;
            case 30: int other = pick(9) == 0 ? number : pick(4); same("distance " + cursor + " " + other, () -> real.distance(cursor, other), () -> model.distance(cursor, other)); break;
            case 31: same("queue " + number, () -> real.queue(number), () -> model.queue(number)); break;
            case 32: if (pick(8) == 0) { int fill = 36 + pick(68); same("load " + fill, () -> real.load(fill), () -> model.load(fill)); } break;
            default: snapshot();
        }
    }

    private void snapshot() {
        if (pick(2) == 0) {
            same("saveSnapshot", real::saveSnapshot, model::saveSnapshot);
        } else {
            same("restoreSnapshot", real::restoreSnapshot, model::restoreSnapshot);
        }
    }
}
