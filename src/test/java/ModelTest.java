/** Long runs of calls, always the same ones, on the class and on the slow model side by side. */
public final class ModelTest {
    private static final int RUNS = 400;
    private static final int MOST_CALLS = 512;

    private final BoxFlickers x = new BoxFlickers();
    private final Model model = new Model();
    private final String name;
    private long seed;
    private int calls = 0;
    private int reach;

    private ModelTest(int run) {
        name = "run " + run + ": ";
        seed = 77777L + 1000003L * run;
        int[] reaches = {3, 6, 12, 40, 999};
        reach = reaches[run % reaches.length];
    }

    public static void main(String[] args) {
        for (int run = 0; run < RUNS; run++) {
            new ModelTest(run).go();
        }
        Due.close("ModelTest");
    }

    private void go() {
        while (calls < MOST_CALLS - 70) {
            switch (any(14)) {
                case 0: case 1: case 2: bring(); break;
                case 3: take(); break;
                case 4: case 5: case 6: case 7: shift(); break;
                case 8: case 9: stretch(); break;
                case 10: touch(); break;
                case 11: tell(); break;
                case 12: tell(); break;
                default: scribble();
            }
            if (any(12) == 0) {
                check("digest()", x.digest(), model.digest());
            }
        }
        check("digest() at last", x.digest(), model.digest());
    }

    private int any(int below) {
        seed = seed * 6364136223846793005L + 1442695040888963407L;
        return (int) ((seed >>> 33) % below);
    }

    private int number() {
        return any(2 * reach + 1) - reach;
    }

    /** Mostly a number that names something. */
    private int near(int below) {
        return any(10) == 0 ? any(below + 4) - 2 : any(below);
    }

    private void check(String call, long got, long want) {
        calls++;
        Due.is(name + call, got, want);
    }

    private void write(String text) {
        for (int i = 0; i < text.length(); i++) {
            int code = text.charAt(i);
            check("letter(" + code + ")", x.letter(code), model.letter(code));
        }
    }

    private String span() {
        int low = number();
        int high = number();
        if (low == high && any(8) != 0) {
            high = low == 999 ? 998 : low + 1;
        }
        boolean right = low < high || any(40) == 0;
        return right ? low + ":" + high : high + ":" + low;
    }

    private void bring() {
        StringBuilder text = new StringBuilder();
        int many = 1 + any(4);
        for (int i = 0; i < many; i++) {
            text.append(i > 0 ? ";" : "").append(span()).append(",").append(span()).append(",").append(span());
        }
        if (any(15) == 0) {
            text.setCharAt(any(text.length()), "0123456789-:,; x".charAt(any(16)));
        }
        check("blank()", x.blank(), model.blank());
        write(text.toString());
        check("fault() of " + text, x.fault(), model.fault());
        check("boxes() of " + text, x.boxes(), model.boxes());
        latest();
    }

    private void scribble() {
        String[] parts = {"0", "1", "-", "9", "99", "10", ":", ":", ",", ";", "0:1", "0:1,", "0:1,0:1,0:1", "-5:-4,2:3,8:9;", "00", "1000"};
        if (any(2) == 0) {
            check("blank()", x.blank(), model.blank());
        }
        for (int i = 0; i < 5; i++) {
            write(parts[any(parts.length)]);
            check("fault()", x.fault(), model.fault());
        }
        check("boxes()", x.boxes(), model.boxes());
        if (any(4) == 0) {
            int code = any(140) - 5;
            check("letter(" + code + ")", x.letter(code), model.letter(code));
        }
    }

    private void take() {
        int bits = any(3) == 0 ? any(1 << 13) : model.count(9) & any(1 << 12) & any(1 << 12);
        check("remove(" + bits + ")", x.remove(bits), model.remove(bits));
        latest();
    }

    private void shift() {
        int box = near(12);
        int dx = any(3) == 0 ? 0 : number() * 3 / 2;
        int dy = any(3) == 0 ? 0 : number() * 3 / 2;
        int dz = any(3) == 0 ? 0 : number() * 3 / 2;
        String call = "move(" + box + ", " + dx + ", " + dy + ", " + dz + ")";
        check(call, x.move(box, dx, dy, dz), model.move(box, dx, dy, dz));
        latest();
    }

    private void stretch() {
        int box = near(12);
        int axis = near(3);
        int a = number();
        int b = number();
        int low = any(12) == 0 ? a : Math.min(a, b);
        int high = any(12) == 0 ? b : Math.max(a, b);
        String call = "lay(" + box + ", " + axis + ", " + low + ", " + high + ")";
        check(call, x.lay(box, axis, low, high), model.lay(box, axis, low, high));
        latest();
    }

    private void touch() {
        boolean counts = any(2) == 0;
        check("touch(" + counts + ")", x.touch(counts), model.touch(counts));
        latest();
    }

    private void latest() {
        int what = near(7);
        check("latest(" + what + ")", x.latest(what), model.latest(what));
        check("latest(3)", x.latest(3), model.latest(3));
        int place = near(4);
        check("event(" + place + ", 0)", x.event(place, 0), model.event(place, 0));
        check("event(" + place + ", 1)", x.event(place, 1), model.event(place, 1));
    }

    private void tell() {
        int a = near(12);
        int b = near(12);
        int axis = near(3);
        int what = near(9);
        int way = any(9) == 0 ? 0 : 2 * any(2) - 1;
        check("box(" + a + ", " + what + ")", x.box(a, what), model.box(a, what));
        check("end(" + axis + ", " + b + ", " + (what % 4) + ")", x.end(axis, b, what % 4), model.end(axis, b, what % 4));
        check("meet(" + a + ", " + b + ")", x.meet(a, b), model.meet(a, b));
        check("pair(" + what + ")", x.pair(what), model.pair(what));
        check("event(" + axis + ", " + what + ")", x.event(axis, what), model.event(axis, what));
        check("let(" + a + ", " + axis + ", " + way + ")", x.let(a, axis, way), model.let(a, axis, way));
        int heap = near(4);
        check("heap(" + heap + ")", x.heap(heap), model.heap(heap));
        int count = near(10);
        check("count(" + count + ")", x.count(count), model.count(count));
        int[] p = new int[6];
        for (int i = 0; i < 6; i += 2) {
            int one = number();
            int other = number();
            p[i] = any(15) == 0 ? one : Math.min(one, other);
            p[i + 1] = any(15) == 0 ? 1000 : Math.max(one, other);
        }
        check("probe(..)", x.probe(p[0], p[1], p[2], p[3], p[4], p[5]), model.probe(p));
    }
}
