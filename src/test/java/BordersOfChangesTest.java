/** The borders that promises 6 to 9 name: each sentence, by its own words, has a method here. */
public final class BordersOfChangesTest {
    private static final int LEAST = Integer.MIN_VALUE;
    private static final int GREATEST = Integer.MAX_VALUE;
    private static final int UNKNOWN = BoxFlickers.UNKNOWN;
    private static final int OUTSIDE = BoxFlickers.OUTSIDE;
    private static final int[] NO_BOXES = {-1, 2, 11, 12, 31, 32, 33, 64, -31, -32, LEAST, LEAST + 1, GREATEST};
    private static final String CUBE = "0:1,0:1,0:1";
    private static final String FOUR = CUBE + ";" + CUBE + ";" + CUBE + ";" + CUBE;

    public static void main(String[] args) {
        removes();
        moves();
        lays();
        touches();
        Due.close("BordersOfChangesTest");
    }

    private static int move(BoxFlickers x, int box, int axis, int by) {
        return x.move(box, axis == 0 ? by : 0, axis == 1 ? by : 0, axis == 2 ? by : 0);
    }

    // ---- promise 6

    private static void removes() {
        goAllAtOnce();
        bitsOfOthers();
        bitsOfNone();
    }

    private static void goAllAtOnce() {
        Due.sentence("promise 6: BOXES (bits of them) go, all at once: how many.");
        BoxFlickers x = Due.with(FOUR, FOUR, FOUR);
        Due.is("one", x.remove(1), 1);
        Due.is("the last", x.remove(1 << 11), 1);
        Due.is("three", x.remove(7 << 1), 3);
        Due.is("count(7): each was one CHANGE", x.count(7), 6);
        Due.is("all others", x.remove(x.count(9)), 7);
        Due.are("count() of none", Due.counts(x), 0, 0, 0, 66, 66, 0, 0, 7, 0, 0);
        Due.are("heap() of none", Due.heaps(x), 0, 0, 0, 0);
        BoxFlickers y = Due.with(FOUR, FOUR, FOUR);
        Due.is("all twelve", y.remove(4095), 12);
        Due.is("count(9)", y.count(9), 0);
        Due.is("end(0, 0, 0)", y.end(0, 0, 0), UNKNOWN);
        Due.bring(y, CUBE);
        Due.is("0 is the least number again", y.count(9), 1);
    }

    private static void bitsOfOthers() {
        Due.sentence("promise 6: OUTSIDE: bits of others, none.");
        BoxFlickers x = Due.with(FOUR, FOUR, FOUR);
        for (int number = 12; number < 32; number++) {
            int bits = 1 << number;
            Due.refuses(x, "remove() of number " + number, () -> x.remove(bits), OUTSIDE);
            Due.refuses(x, "remove() of all and number " + number, () -> x.remove(4095 | bits), OUTSIDE);
        }
        Due.refuses(x, "remove(-1)", () -> x.remove(-1), OUTSIDE);
        Due.refuses(x, "remove(greatest)", () -> x.remove(GREATEST), OUTSIDE);
        x.remove(1 << 5);
        Due.refuses(x, "remove() of one that has gone", () -> x.remove(1 << 5), OUTSIDE);
        Due.refuses(x, "remove() of all and one that has gone", () -> x.remove(4095), OUTSIDE);
        Due.is("remove() of all others", x.remove(4095 & ~(1 << 5)), 11);
    }

    private static void bitsOfNone() {
        BoxFlickers x = Due.with(CUBE);
        Due.refuses(x, "remove(0)", () -> x.remove(0), OUTSIDE);
        x.remove(1);
        Due.refuses(x, "remove(0) of none", () -> x.remove(0), OUTSIDE);
        Due.is("count(7)", x.count(7), 2);
    }

    // ---- promise 7

    private static void moves() {
        howManySwaps();
        moveOfNoBox();
        moveToTheBorders();
        moveWrapsNever();
        moveOnAllOrNone();
    }

    private static void howManySwaps() {
        Due.sentence("promise 7: A BOX is moved by so much along each AXIS: how many SWAPS there are.");
        BoxFlickers x = Due.with("0:5,0:5,0:5;7:9,7:9,7:9");
        Due.is("by nothing", x.move(0, 0, 0, 0), 0);
        Due.is("by some, past none", x.move(0, 2, -3, 1), 0);
        Due.are("box 0", Due.box(x, 0), 2, 7, -3, 2, 1, 6, 0, 0, 0);
        Due.is("by 1, past one", x.move(0, 1, 0, 0), 1);
        Due.is("SWAPS of all AXES in one sum", x.move(0, 90, 10, 2), 3 + 2 + 1);
        Due.are("latest()", Due.latest(x), 0, 0, 0, 0, 3, 2, 1);
        Due.is("count(5)", x.count(5), 7);
        Due.are("box 1 stays", Due.box(x, 1), 7, 9, 7, 9, 7, 9, 0, 0, 1);
    }

    private static void moveOfNoBox() {
        Due.sentence("promise 7: UNKNOWN: box");
        BoxFlickers x = Due.with("0:1,0:1,0:1;0:9,0:9,0:9");
        for (int box : NO_BOXES) {
            Due.refuses(x, "move(" + box + ", 1, 1, 1)", () -> x.move(box, 1, 1, 1), UNKNOWN);
        }
        x.remove(1);
        Due.refuses(x, "move() of one that has gone", () -> x.move(0, 1, 1, 1), UNKNOWN);
    }

    private static void moveToTheBorders() {
        Due.sentence("promise 7: OUTSIDE: dx, dy, dz (an END would not be between -999 and 999).");
        for (int axis = 0; axis < 3; axis++) {
            int along = axis;
            BoxFlickers x = Due.with("-3:5,-3:5,-3:5");
            Due.refuses(x, "up beyond on axis " + axis, () -> move(x, 0, along, 995), OUTSIDE);
            Due.refuses(x, "down beyond on axis " + axis, () -> move(x, 0, along, -997), OUTSIDE);
            Due.is("up to the border on axis " + axis, move(x, 0, axis, 994), 0);
            Due.is("HIGH there", x.box(0, 2 * axis + 1), 999);
            Due.refuses(x, "by 1 more on axis " + axis, () -> move(x, 0, along, 1), OUTSIDE);
            Due.is("down to the other border on axis " + axis, move(x, 0, axis, -1990), 0);
            Due.is("LOW there", x.box(0, 2 * axis), -999);
            Due.refuses(x, "by 1 more down on axis " + axis, () -> move(x, 0, along, -1), OUTSIDE);
            Due.refuses(x, "all the way up, and 1 more, on axis " + axis, () -> move(x, 0, along, 1991), OUTSIDE);
            Due.is("all the way up on axis " + axis, move(x, 0, axis, 1990), 0);
            BoxFlickers wide = Due.with("-999:999,-999:999,-999:999");
            Due.refuses(wide, "the widest up on axis " + axis, () -> move(wide, 0, along, 1), OUTSIDE);
            Due.refuses(wide, "the widest down on axis " + axis, () -> move(wide, 0, along, -1), OUTSIDE);
            Due.is("the widest stays on axis " + axis, move(wide, 0, axis, 0), 0);
        }
    }

    private static void moveWrapsNever() {
        BoxFlickers x = Due.with("-999:-998,0:1,998:999");
        int[] far = {LEAST, LEAST + 1, LEAST + 998, LEAST + 999, LEAST + 1000, GREATEST, GREATEST - 1, GREATEST - 998,
            GREATEST - 999, GREATEST - 1000, 1 << 16, -(1 << 16), 1000000, -1000000};
        for (int by : far) {
            for (int axis = 0; axis < 3; axis++) {
                int along = axis;
                Due.refuses(x, "by " + by + " on axis " + axis, () -> move(x, 0, along, by), OUTSIDE);
            }
        }
    }

    private static void moveOnAllOrNone() {
        BoxFlickers x = Due.with("0:5,0:5,0:5;0:5,0:5,0:5");
        Due.refuses(x, "dx alone is wrong", () -> x.move(0, 995, 7, 7), OUTSIDE);
        Due.refuses(x, "dy alone is wrong", () -> x.move(0, 7, -1000, 7), OUTSIDE);
        Due.refuses(x, "dz alone is wrong", () -> x.move(0, 7, 7, 995), OUTSIDE);
        Due.are("box 0", Due.box(x, 0), 0, 5, 0, 5, 0, 5, 1, 2, 0);
    }

    // ---- promise 8

    private static void lays() {
        laidAnew();
        layOfNoBoxOrAxis();
        layToTheBorders();
    }

    private static void laidAnew() {
        Due.sentence("promise 8: A BOX is laid anew on an AXIS: how many SWAPS there are.");
        BoxFlickers x = Due.with("0:5,0:5,0:5;7:9,7:9,7:9");
        for (int axis = 0; axis < 3; axis++) {
            Due.is("as it is on axis " + axis, x.lay(0, axis, 0, 5), 0);
            Due.is("to the other one on axis " + axis, x.lay(0, axis, 0, 7), 0);
            Due.is("into the other one on axis " + axis, x.lay(0, axis, 0, 8), 1);
            Due.is("latest() on axis " + axis, x.latest(4 + axis), 1);
            Due.is("around the other one on axis " + axis, x.lay(0, axis, -999, 999), 1);
            Due.is("within the other one on axis " + axis, x.lay(0, axis, 8, 9), 2);
            Due.is("box(0, LOW)", x.box(0, 2 * axis), 8);
            Due.is("box(0, HIGH)", x.box(0, 2 * axis + 1), 9);
            Due.is("back on axis " + axis, x.lay(0, axis, 0, 5), 2);
        }
        Due.is("count(5)", x.count(5), 18);
        Due.is("count(7)", x.count(7), 19);
    }

    private static void layOfNoBoxOrAxis() {
        Due.sentence("promise 8: UNKNOWN: box, axis");
        BoxFlickers x = Due.with("0:1,0:1,0:1;0:9,0:9,0:9");
        for (int box : NO_BOXES) {
            Due.refuses(x, "lay(" + box + ", 0, 0, 5)", () -> x.lay(box, 0, 0, 5), UNKNOWN);
        }
        for (int axis : new int[] {-1, 3, 4, 32, 33, 34, -3, LEAST, GREATEST}) {
            Due.refuses(x, "lay(0, " + axis + ", 0, 5)", () -> x.lay(0, axis, 0, 5), UNKNOWN);
        }
        x.remove(1);
        Due.refuses(x, "lay() of one that has gone", () -> x.lay(0, 0, 0, 1), UNKNOWN);
    }

    private static void layToTheBorders() {
        Due.sentence("promise 8: OUTSIDE: low, high.");
        int[][] wrong = {{-1000, 0}, {0, 1000}, {-1000, 1000}, {0, 0}, {5, 4}, {999, 999}, {-999, -999}, {999, 1000},
            {-1000, -999}, {999, -999}, {1000, 1001}, {-1001, -1000}, {LEAST, 0}, {0, LEAST}, {LEAST, LEAST},
            {GREATEST, 0}, {0, GREATEST}, {LEAST, GREATEST}, {GREATEST, LEAST}, {GREATEST, GREATEST}};
        int[][] right = {{-999, 999}, {-999, -998}, {998, 999}, {-1, 0}, {0, 1}, {-999, 0}, {0, 999}};
        for (int axis = 0; axis < 3; axis++) {
            int along = axis;
            BoxFlickers x = Due.with("3:4,3:4,3:4");
            for (int[] span : wrong) {
                String call = "lay(0, " + axis + ", " + span[0] + ", " + span[1] + ")";
                Due.refuses(x, call, () -> x.lay(0, along, span[0], span[1]), OUTSIDE);
            }
            for (int[] span : right) {
                Due.is("lay(0, " + axis + ", " + span[0] + ", " + span[1] + ")", x.lay(0, axis, span[0], span[1]), 0);
                Due.is("LOW then", x.box(0, 2 * axis), span[0]);
                Due.is("HIGH then", x.box(0, 2 * axis + 1), span[1]);
            }
        }
    }

    // ---- promise 9

    private static void touches() {
        Due.sentence("promise 9: TOUCHING counts, or not: whether it did (1, 0).");
        BoxFlickers x = new BoxFlickers();
        Due.is("touch(false) at first", x.touch(false), 0);
        Due.is("touch(true)", x.touch(true), 0);
        Due.is("touch(true) again", x.touch(true), 1);
        Due.is("count(8)", x.count(8), 1);
        Due.is("touch(false)", x.touch(false), 1);
        Due.is("touch(false) again", x.touch(false), 0);
        Due.is("count(8)", x.count(8), 0);
        Due.is("count(7)", x.count(7), 5);
        Due.bring(x, "0:5,0:5,0:5;5:9,5:9,5:9");
        x.touch(true);
        Due.are("EVENTS of what just touches", Due.events(x), 2 * 1 + 1);
        x.touch(true);
        Due.are("EVENTS of nothing new", Due.events(x));
        x.touch(false);
        Due.are("EVENTS of what only touched", Due.events(x), 2 * 1);
        BoxFlickers y = Due.with("0:5,0:5,0:5;6:9,0:5,0:5;1:2,1:2,1:2");
        y.touch(true);
        Due.are("EVENTS where nothing just touches", Due.events(y));
        Due.is("count(2)", y.count(2), 1);
    }
}
