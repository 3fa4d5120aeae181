import java.util.ArrayList;
import java.util.Comparator;
import java.util.List;
import java.util.TreeMap;
import java.util.TreeSet;
import java.util.regex.Matcher;
import java.util.regex.Pattern;

/** The document once more, as plain and slow as can be: nothing is kept that can be found anew. */
final class Model {
    static final int NONE = -10001, UNKNOWN = -10002, OUTSIDE = -10003, STATE = -10004, FULL = -10005;
    private static final String NUMBER = "(?:0|-?[1-9][0-9]{0,2})";
    private static final String AXIS = NUMBER + ":" + NUMBER;
    private static final String BOX = AXIS + "," + AXIS + "," + AXIS;
    private static final Pattern BATCH = Pattern.compile(BOX + "(?:;" + BOX + "){0,3}");

    private final TreeMap<Integer, int[]> boxes = new TreeMap<>();
    private final StringBuilder page = new StringBuilder();
    private boolean touching;
    private List<int[]> events = new ArrayList<>();
    private int[] swaps = new int[3];
    private int flickers;
    private int begunEver, endedEver, swapsEver, flickersEver, changesEver;

    int letter(int code) {
        if (code < 32 || code > 126) return OUTSIDE;
        if (page.length() == 60) return FULL;
        page.append((char) code);
        return page.length();
    }

    int blank() {
        int had = page.length();
        page.setLength(0);
        return had;
    }

    int fault() {
        for (int i = 1; i <= page.length(); i++) {
            Matcher m = BATCH.matcher(page.substring(0, i));
            if (!m.matches() && !m.hitEnd()) return i - 1;
        }
        return page.length();
    }

    int boxes() {
        if (!BATCH.matcher(page).matches()) return STATE;
        List<int[]> coming = new ArrayList<>();
        for (String text : page.toString().split(";")) {
            String[] parts = text.split("[,:]");
            int[] box = new int[6];
            for (int i = 0; i < 6; i++) box[i] = Integer.parseInt(parts[i]);
            if (box[0] >= box[1] || box[2] >= box[3] || box[4] >= box[5]) return STATE;
            coming.add(box);
        }
        if (boxes.size() + coming.size() > 12) return FULL;
        TreeSet<Integer> before = pairs();
        for (int[] box : coming) {
            int number = 0;
            while (boxes.containsKey(number)) number++;
            boxes.put(number, box);
        }
        page.setLength(0);
        tell(before, new int[3], -1);
        return coming.size();
    }

    int remove(int bits) {
        if (bits == 0) return OUTSIDE;
        for (int i = 0; i < 32; i++) {
            if ((bits >>> i & 1) == 1 && !boxes.containsKey(i)) return OUTSIDE;
        }
        TreeSet<Integer> before = pairs();
        for (int i = 0; i < 12; i++) if ((bits >>> i & 1) == 1) boxes.remove(i);
        tell(before, new int[3], -1);
        return Integer.bitCount(bits);
    }

    int move(int box, int dx, int dy, int dz) {
        if (!boxes.containsKey(box)) return UNKNOWN;
        int[] old = boxes.get(box);
        long[] by = {dx, dx, dy, dy, dz, dz};
        int[] next = new int[6];
        for (int i = 0; i < 6; i++) {
            long value = old[i] + by[i];
            if (value < -999 || value > 999) return OUTSIDE;
            next[i] = (int) value;
        }
        return relay(box, next);
    }

    int lay(int box, int axis, int low, int high) {
        if (!boxes.containsKey(box) || axis < 0 || axis > 2) return UNKNOWN;
        if (low < -999 || high > 999 || low >= high) return OUTSIDE;
        int[] next = boxes.get(box).clone();
        next[2 * axis] = low;
        next[2 * axis + 1] = high;
        return relay(box, next);
    }

    /** Ends are carried through lists; which pairs overlap is read off the lists behind every single swap. */
    private int relay(int box, int[] next) {
        TreeSet<Integer> before = pairs();
        List<List<Integer>> lists = new ArrayList<>();
        for (int axis = 0; axis < 3; axis++) lists.add(order(axis));
        int[] done = new int[3];
        int[] state = boxes.get(box);
        int turns = 0;
        for (int axis = 0; axis < 3; axis++) {
            int[] kinds = next[2 * axis] > state[2 * axis] ? new int[] {1, 0} : new int[] {0, 1};
            for (int kind : kinds) {
                state[2 * axis + kind] = next[2 * axis + kind];
                List<Integer> list = lists.get(axis);
                int wanted = order(axis).indexOf(2 * box + kind);
                while (list.indexOf(2 * box + kind) != wanted) {
                    int at = list.indexOf(2 * box + kind);
                    int to = at < wanted ? at + 1 : at - 1;
                    TreeSet<Integer> ahead = pairsOf(lists);
                    int other = list.get(to);
                    list.set(to, list.get(at));
                    list.set(at, other);
                    done[axis]++;
                    TreeSet<Integer> behind = pairsOf(lists);
                    TreeSet<Integer> both = new TreeSet<>(ahead);
                    both.retainAll(behind);
                    turns += ahead.size() + behind.size() - 2 * both.size();
                }
            }
        }
        tell(before, done, turns);
        return done[0] + done[1] + done[2];
    }

    int touch(boolean counts) {
        TreeSet<Integer> before = pairs();
        boolean did = touching;
        touching = counts;
        tell(before, new int[3], -1);
        return did ? 1 : 0;
    }

    private void tell(TreeSet<Integer> before, int[] done, int turns) {
        TreeSet<Integer> behind = pairs();
        events = new ArrayList<>();
        TreeSet<Integer> all = new TreeSet<>(before);
        all.addAll(behind);
        for (int pair : all) {
            if (!before.contains(pair)) {
                events.add(new int[] {pair, 1});
                begunEver++;
            } else if (!behind.contains(pair)) {
                events.add(new int[] {pair, 0});
                endedEver++;
            }
        }
        swaps = done;
        flickers = turns < 0 ? 0 : turns - events.size();
        swapsEver += done[0] + done[1] + done[2];
        flickersEver += flickers;
        changesEver++;
    }

    private List<Integer> order(int axis) {
        List<Integer> list = new ArrayList<>();
        for (int box : boxes.keySet()) {
            list.add(2 * box);
            list.add(2 * box + 1);
        }
        Comparator<Integer> byValue = Comparator.comparingInt(e -> boxes.get(e / 2)[2 * axis + e % 2]);
        list.sort(byValue.thenComparingInt(e -> touching ? e % 2 : 1 - e % 2).thenComparingInt(e -> e / 2));
        return list;
    }

    private TreeSet<Integer> pairsOf(List<List<Integer>> lists) {
        TreeSet<Integer> found = new TreeSet<>();
        for (int a : boxes.keySet()) {
            for (int b : boxes.tailMap(a, false).keySet()) {
                boolean all = true;
                for (List<Integer> list : lists) {
                    all &= list.indexOf(2 * a) < list.indexOf(2 * b + 1) && list.indexOf(2 * b) < list.indexOf(2 * a + 1);
                }
                if (all) found.add(12 * a + b);
            }
        }
        return found;
    }

    private boolean meets(int[] a, int[] b, int axis) {
        int gap = touching ? 1 : 0;
        return a[2 * axis] < b[2 * axis + 1] + gap && b[2 * axis] < a[2 * axis + 1] + gap;
    }

    private boolean overlap(int[] a, int[] b) {
        return meets(a, b, 0) && meets(a, b, 1) && meets(a, b, 2);
    }

    private TreeSet<Integer> pairs() {
        TreeSet<Integer> found = new TreeSet<>();
        for (int a : boxes.keySet()) {
            for (int b : boxes.tailMap(a, false).keySet()) {
                if (overlap(boxes.get(a), boxes.get(b))) found.add(12 * a + b);
            }
        }
        return found;
    }

    private int overlapped(int number, int[] box) {
        int bits = 0;
        for (int other : boxes.keySet()) {
            if (other != number && overlap(box, boxes.get(other))) bits |= 1 << other;
        }
        return bits;
    }

    private int groupOf(int box) {
        int bits = 1 << box;
        while (true) {
            int wider = bits;
            for (int pair : pairs()) {
                int two = 1 << pair / 12 | 1 << pair % 12;
                if ((two & wider) != 0) wider |= two;
            }
            if (wider == bits) return bits;
            bits = wider;
        }
    }

    int box(int box, int what) {
        if (!boxes.containsKey(box)) return UNKNOWN;
        if (what < 0 || what > 8) return OUTSIDE;
        if (what < 6) return boxes.get(box)[what];
        int bits = overlapped(box, boxes.get(box));
        return what == 6 ? Integer.bitCount(bits) : what == 7 ? bits : Integer.numberOfTrailingZeros(groupOf(box));
    }

    int end(int axis, int place, int what) {
        if (axis < 0 || axis > 2 || place < 0 || place >= 2 * boxes.size()) return UNKNOWN;
        if (what < 0 || what > 2) return OUTSIDE;
        int end = order(axis).get(place);
        return what == 0 ? end / 2 : what == 1 ? end % 2 : boxes.get(end / 2)[2 * axis + end % 2];
    }

    int meet(int a, int b) {
        if (!boxes.containsKey(a) || !boxes.containsKey(b) || a == b) return UNKNOWN;
        int axes = 0;
        for (int axis = 0; axis < 3; axis++) if (meets(boxes.get(a), boxes.get(b), axis)) axes++;
        return axes;
    }

    int pair(int place) {
        List<Integer> all = new ArrayList<>(pairs());
        return place < 0 || place >= all.size() ? UNKNOWN : all.get(place);
    }

    int event(int place, int what) {
        if (place < 0 || place >= events.size()) return UNKNOWN;
        return what < 0 || what > 1 ? OUTSIDE : events.get(place)[what];
    }

    int latest(int what) {
        if (what < 0 || what > 6) return OUTSIDE;
        if (what == 0) return events.size();
        if (what == 3) return flickers;
        if (what > 3) return swaps[what - 4];
        return (int) events.stream().filter(e -> e[1] == 2 - what).count();
    }

    int let(int box, int axis, int way) {
        if (!boxes.containsKey(box) || axis < 0 || axis > 2) return UNKNOWN;
        if (way != 1 && way != -1) return OUTSIDE;
        int[] moved = boxes.get(box).clone();
        int now = overlapped(box, moved);
        for (int distance = 1; ; distance++) {
            moved[2 * axis] += way;
            moved[2 * axis + 1] += way;
            if (moved[2 * axis] < -999 || moved[2 * axis + 1] > 999) return NONE;
            if (overlapped(box, moved) != now) return distance;
        }
    }

    int heap(int what) {
        if (what < 0 || what > 3) return OUTSIDE;
        if (what < 2) {
            TreeSet<Integer> groups = new TreeSet<>();
            for (int box : boxes.keySet()) groups.add(groupOf(box));
            return what == 0 ? groups.size() : groups.stream().mapToInt(Integer::bitCount).max().orElse(0);
        }
        int[] over = new int[12];
        int best = 0;
        for (int box : boxes.keySet()) over[box] = overlapped(box, boxes.get(box)) | 1 << box;
        for (int bits = 1; bits < 4096; bits++) {
            boolean all = true;
            for (int i = 0; i < 12; i++) all &= (bits >> i & 1) == 0 || (bits & ~over[i]) == 0;
            if (all && Integer.bitCount(bits) > Integer.bitCount(best)) best = bits;
        }
        return what == 2 ? best : Integer.bitCount(best);
    }

    int probe(int... ends) {
        for (int i = 0; i < 6; i++) {
            if (ends[i] < -999 || ends[i] > 999 || i % 2 == 1 && ends[i - 1] >= ends[i]) return OUTSIDE;
        }
        return overlapped(-1, ends);
    }

    int count(int what) {
        int bits = 0;
        for (int box : boxes.keySet()) bits |= 1 << box;
        int[] all = {page.length(), boxes.size(), pairs().size(), begunEver, endedEver, swapsEver, flickersEver,
            changesEver, touching ? 1 : 0, bits};
        return what < 0 || what > 9 ? OUTSIDE : all[what];
    }

    long digest() {
        List<Integer> all = new ArrayList<>();
        for (int box : boxes.keySet()) {
            all.add(box);
            for (int what = 0; what < 9; what++) all.add(box(box, what));
            for (int axis = 0; axis < 3; axis++) {
                all.add(let(box, axis, -1));
                all.add(let(box, axis, 1));
            }
        }
        for (int axis = 0; axis < 3; axis++) {
            for (int end : order(axis)) {
                all.add(end / 2);
                all.add(end % 2);
                all.add(boxes.get(end / 2)[2 * axis + end % 2]);
            }
        }
        all.addAll(pairs());
        for (int[] event : events) {
            all.add(event[0]);
            all.add(event[1]);
        }
        for (int what = 0; what < 7; what++) all.add(latest(what));
        for (int what = 0; what < 4; what++) all.add(heap(what));
        for (int i = 0; i < page.length(); i++) all.add((int) page.charAt(i));
        for (int what = 0; what < 10; what++) all.add(count(what));
        long h = 1657;
        for (int number : all) h = 31 * h + number;
        return h;
    }
}
