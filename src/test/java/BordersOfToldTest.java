import java.math.BigInteger;

/** The borders that promises 10 to 20 name: each sentence, by its own words, has a method here. */
public final class BordersOfToldTest {
    private static final int LEAST = Integer.MIN_VALUE;
    private static final int GREATEST = Integer.MAX_VALUE;
    private static final int NONE = BoxFlickers.NONE;
    private static final int UNKNOWN = BoxFlickers.UNKNOWN;
    private static final int OUTSIDE = BoxFlickers.OUTSIDE;
    private static final int[] NO_AXES = {-1, 3, 4, 32, 33, -3, LEAST, GREATEST};
    private static final String CUBE = "0:1,0:1,0:1";
    private static final String FOUR = CUBE + ";" + CUBE + ";" + CUBE + ";" + CUBE;

    public static void main(String[] args) {
        box();
        end();
        meet();
        pair();
        event();
        latest();
        let();
        heap();
        probe();
        count();
        digest();
        Due.close("BordersOfToldTest");
    }

    /** Numbers that name no BOX where 0 and 1 are the only ones. */
    private static int[] noBoxes() {
        return new int[] {-1, 2, 11, 12, 31, 32, 33, 64, -31, -32, LEAST, LEAST + 1, GREATEST};
    }

    /** What is not one from 0 to the last. */
    private static int[] beyond(int last) {
        return new int[] {-1, last + 1, last + 2, -2, 32, 64, LEAST, LEAST + 1, GREATEST};
    }

    // ---- promise 10

    private static void box() {
        ofABox();
        ofNoBox();
    }

    private static void ofABox() {
        Due.sentence("promise 10: 6 how many it OVERLAPS, 7 which, as bits, 8 the least number in its GROUP");
        BoxFlickers x = Due.with("-999:999,-998:998,-997:997");
        Due.are("alone", Due.box(x, 0), -999, 999, -998, 998, -997, 997, 0, 0, 0);
        BoxFlickers all = Due.with(FOUR, FOUR, FOUR);
        Due.are("the first of twelve", Due.box(all, 0), 0, 1, 0, 1, 0, 1, 11, 4094, 0);
        Due.are("the last of twelve", Due.box(all, 11), 0, 1, 0, 1, 0, 1, 11, 2047, 0);
        all.remove(4095 & ~(3 << 10));
        Due.are("the last of two", Due.box(all, 11), 0, 1, 0, 1, 0, 1, 1, 1024, 10);
        all.move(10, 1, 0, 0);
        Due.are("the last, apart", Due.box(all, 11), 0, 1, 0, 1, 0, 1, 0, 0, 11);
    }

    private static void ofNoBox() {
        Due.sentence("promise 10: UNKNOWN; OUTSIDE.");
        BoxFlickers x = Due.with(CUBE + ";" + CUBE);
        for (int box : noBoxes()) {
            Due.refuses(x, "box(" + box + ", 0)", () -> x.box(box, 0), UNKNOWN);
            Due.is("box(" + box + ", 9), UNKNOWN first", x.box(box, 9), UNKNOWN);
        }
        for (int what : beyond(8)) {
            Due.refuses(x, "box(1, " + what + ")", () -> x.box(1, what), OUTSIDE);
        }
        x.remove(2);
        Due.is("box() of one that has gone", x.box(1, 0), UNKNOWN);
    }

    // ---- promise 11

    private static void end() {
        Due.sentence("promise 11: UNKNOWN: axis, place; OUTSIDE: what.");
        BoxFlickers x = Due.with("-999:999,0:5,3:4;1:2,-7:0,3:9");
        for (int axis = 0; axis < 3; axis++) {
            int along = axis;
            for (int place : beyond(3)) {
                Due.refuses(x, "end(" + axis + ", " + place + ", 0)", () -> x.end(along, place, 0), UNKNOWN);
                Due.is("end(" + axis + ", " + place + ", 3), UNKNOWN first", x.end(axis, place, 3), UNKNOWN);
            }
            for (int what : beyond(2)) {
                Due.refuses(x, "end(" + axis + ", 3, " + what + ")", () -> x.end(along, 3, what), OUTSIDE);
            }
        }
        for (int axis : NO_AXES) {
            Due.refuses(x, "end(" + axis + ", 0, 0)", () -> x.end(axis, 0, 0), UNKNOWN);
            Due.is("end(" + axis + ", 0, 3), UNKNOWN first", x.end(axis, 0, 3), UNKNOWN);
        }
        endsOfManyAndOfNone(x);
    }

    private static void endsOfManyAndOfNone(BoxFlickers x) {
        Due.sentence("promise 11: Of an END of an AXIS, by its place (from 0)");
        Due.are("the first place", new long[] {x.end(0, 0, 0), x.end(0, 0, 1), x.end(0, 0, 2)}, 0, 0, -999);
        Due.are("the last place", new long[] {x.end(0, 3, 0), x.end(0, 3, 1), x.end(0, 3, 2)}, 0, 1, 999);
        Due.are("the first place on axis 1", new long[] {x.end(1, 0, 0), x.end(1, 0, 1), x.end(1, 0, 2)}, 1, 0, -7);
        Due.are("the last place on axis 2", new long[] {x.end(2, 3, 0), x.end(2, 3, 1), x.end(2, 3, 2)}, 1, 1, 9);
        BoxFlickers all = Due.with(FOUR, FOUR, FOUR);
        Due.are("place 23", new long[] {all.end(2, 23, 0), all.end(2, 23, 1), all.end(2, 23, 2)}, 11, 1, 1);
        Due.is("place 24", all.end(2, 24, 0), UNKNOWN);
        all.remove(1);
        Due.is("place 21", all.end(2, 21, 0), 11);
        Due.is("place 22", all.end(2, 22, 0), UNKNOWN);
        all.remove(4094);
        Due.is("place 0 of none", all.end(2, 0, 0), UNKNOWN);
    }

    // ---- promise 12

    private static void meet() {
        Due.sentence("promise 12: UNKNOWN: a, b, or they are the same.");
        BoxFlickers x = Due.with("0:5,0:5,0:5;5:9,0:5,4:9");
        Due.is("meet(0, 1)", x.meet(0, 1), 2);
        Due.is("meet(1, 0)", x.meet(1, 0), 2);
        Due.refuses(x, "meet(0, 0)", () -> x.meet(0, 0), UNKNOWN);
        Due.refuses(x, "meet(1, 1)", () -> x.meet(1, 1), UNKNOWN);
        for (int box : noBoxes()) {
            Due.refuses(x, "meet(" + box + ", 0)", () -> x.meet(box, 0), UNKNOWN);
            Due.refuses(x, "meet(1, " + box + ")", () -> x.meet(1, box), UNKNOWN);
            Due.is("meet(" + box + ", " + box + ")", x.meet(box, box), UNKNOWN);
        }
        x.remove(1);
        Due.is("meet() with one that has gone", x.meet(1, 0), UNKNOWN);
        onNoneToThree();
    }

    private static void onNoneToThree() {
        Due.sentence("promise 12: On how many AXES two BOXES MEET.");
        BoxFlickers x = Due.with("0:5,0:5,0:5;5:9,5:9,5:9");
        Due.is("on none", x.meet(0, 1), 0);
        x.lay(1, 1, 4, 9);
        Due.is("on one", x.meet(0, 1), 1);
        x.lay(1, 2, -9, 1);
        Due.is("on two", x.meet(0, 1), 2);
        x.touch(true);
        Due.is("on all, touching", x.meet(0, 1), 3);
    }

    // ---- promise 13

    private static void pair() {
        Due.sentence("promise 13: Of pairs that OVERLAP, by place (from 0; in order as EVENTS)");
        BoxFlickers none = Due.with("0:1,0:1,0:1;1:2,0:1,0:1");
        Due.is("pair(0) of none", none.pair(0), UNKNOWN);
        none.touch(true);
        Due.is("pair(0)", none.pair(0), 1);
        Due.is("pair(1)", none.pair(1), UNKNOWN);
        BoxFlickers all = Due.with(FOUR, FOUR, FOUR);
        int place = 0;
        for (int a = 0; a < 12; a++) {
            for (int b = a + 1; b < 12; b++) {
                Due.is("pair(" + place + ") of 66", all.pair(place), 12 * a + b);
                place++;
            }
        }
        Due.sentence("promise 13: UNKNOWN.");
        for (int other : new int[] {-1, 66, 67, 144, -66, LEAST, GREATEST}) {
            Due.refuses(all, "pair(" + other + ")", () -> all.pair(other), UNKNOWN);
        }
        all.remove(1);
        Due.is("pair(54) of 55", all.pair(54), 12 * 10 + 11);
        Due.is("pair(55) of 55", all.pair(55), UNKNOWN);
    }

    // ---- promise 14

    private static void event() {
        Due.sentence("promise 14: UNKNOWN: place (no CHANGE was yet, too)");
        BoxFlickers fresh = new BoxFlickers();
        for (int place : new int[] {0, 1, -1, 65, 66, LEAST, GREATEST}) {
            Due.refuses(fresh, "event(" + place + ", 0), no CHANGE yet", () -> fresh.event(place, 0), UNKNOWN);
            Due.is("event(" + place + ", 2), UNKNOWN first", fresh.event(place, 2), UNKNOWN);
        }
        BoxFlickers x = Due.with(CUBE + ";" + CUBE + ";" + CUBE);
        Due.is("event(2, 0) of 3", x.event(2, 0), 14);
        Due.is("event(2, 1) of 3", x.event(2, 1), 1);
        for (int place : beyond(2)) {
            Due.refuses(x, "event(" + place + ", 0)", () -> x.event(place, 0), UNKNOWN);
            Due.is("event(" + place + ", 2), UNKNOWN first", x.event(place, 2), UNKNOWN);
        }
        Due.sentence("promise 14: OUTSIDE.");
        for (int what : beyond(1)) {
            Due.refuses(x, "event(0, " + what + ")", () -> x.event(0, what), OUTSIDE);
        }
        ofTheLatestChange(x);
    }

    private static void ofTheLatestChange(BoxFlickers x) {
        Due.sentence("promise 14: Of EVENTS of the latest CHANGE, by place (from 0)");
        x.move(0, 0, 0, 0);
        Due.is("event(0, 0) of a CHANGE without EVENTS", x.event(0, 0), UNKNOWN);
        x.move(0, 1, 0, 0);
        Due.are("EVENTS of a later one, ENDED", Due.events(x), 2 * 1, 2 * 2);
        x.move(0, 5000, 0, 0);
        Due.are("EVENTS behind a refusal", Due.events(x), 2 * 1, 2 * 2);
        x.letter('5');
        x.blank();
        Due.are("EVENTS behind letters", Due.events(x), 2 * 1, 2 * 2);
        BoxFlickers all = Due.with(FOUR, FOUR, FOUR);
        all.remove(4095);
        Due.is("event(0, 0) of 66", all.event(0, 0), 1);
        Due.is("event(65, 0) of 66", all.event(65, 0), 12 * 10 + 11);
        Due.is("event(65, 1) of 66", all.event(65, 1), 0);
        Due.is("event(66, 0) of 66", all.event(66, 0), UNKNOWN);
    }

    // ---- promise 15

    private static void latest() {
        Due.sentence("promise 15: Of the latest CHANGE (0, if there was none)");
        BoxFlickers x = new BoxFlickers();
        Due.are("latest() at first", Due.latest(x), 0, 0, 0, 0, 0, 0, 0);
        Due.write(x, CUBE + ";2:3,0:1,0:1");
        Due.are("latest() of letters", Due.latest(x), 0, 0, 0, 0, 0, 0, 0);
        x.boxes();
        x.move(0, 4, 1, 0);
        Due.are("latest() of one with all", Due.latest(x), 0, 0, 0, 2, 4, 3, 0);
        x.remove(8);
        Due.are("latest() behind a refusal", Due.latest(x), 0, 0, 0, 2, 4, 3, 0);
        x.lay(0, 1, 1, 2);
        Due.are("latest() of one that alters nothing", Due.latest(x), 0, 0, 0, 0, 0, 0, 0);
        BoxFlickers all = Due.with(FOUR, FOUR, FOUR);
        all.remove(4095);
        Due.are("latest() of 66", Due.latest(all), 66, 0, 66, 0, 0, 0, 0);
        Due.sentence("promise 15: OUTSIDE.");
        for (int what : beyond(6)) {
            Due.refuses(x, "latest(" + what + ")", () -> x.latest(what), OUTSIDE);
            Due.is("latest(" + what + ") at first", new BoxFlickers().latest(what), OUTSIDE);
        }
    }

    // ---- promise 16

    private static void let() {
        Due.sentence("promise 16: LET; NONE.");
        BoxFlickers x = Due.with("0:5,0:5,0:5;8:9,0:5,0:5");
        Due.is("let(0, 0, 1)", x.let(0, 0, 1), 4);
        Due.is("let(0, 0, -1)", x.let(0, 0, -1), NONE);
        Due.is("let(0, 1, 1)", x.let(0, 1, 1), NONE);
        x.move(0, x.let(0, 0, 1) - 1, 0, 0);
        Due.is("latest(0) by 1 less", x.latest(0), 0);
        Due.is("let(0, 0, 1), 1 is left", x.let(0, 0, 1), 1);
        x.move(0, 1, 0, 0);
        Due.is("latest(0) by it", x.latest(0), 1);
        Due.is("let() of one alone", Due.with(CUBE).let(0, 0, 1), NONE);
        for (int axis = 0; axis < 3; axis++) {
            BoxFlickers y = Due.with("0:1,0:1,0:1;5:6,5:6,5:6");
            y.lay(1, axis, 0, 1);
            Due.is("let(0, 0, 1) with one beside on axis " + axis + " alone", y.let(0, 0, 1), NONE);
            Due.is("let(0, 1, 1) with one beside on axis " + axis + " alone", y.let(0, 1, 1), NONE);
            Due.is("let(0, 2, 1) with one beside on axis " + axis + " alone", y.let(0, 2, 1), NONE);
        }
        Due.sentence("promise 16: UNKNOWN: box, axis");
        for (int box : noBoxes()) {
            Due.refuses(x, "let(" + box + ", 0, 1)", () -> x.let(box, 0, 1), UNKNOWN);
            Due.is("let(" + box + ", 0, 0), UNKNOWN first", x.let(box, 0, 0), UNKNOWN);
        }
        for (int axis : NO_AXES) {
            Due.refuses(x, "let(0, " + axis + ", 1)", () -> x.let(0, axis, 1), UNKNOWN);
            Due.is("let(0, " + axis + ", 0), UNKNOWN first", x.let(0, axis, 0), UNKNOWN);
        }
        Due.sentence("promise 16: OUTSIDE: way (1, -1).");
        for (int way : new int[] {0, 2, -2, 3, -3, 32, LEAST, LEAST + 1, GREATEST}) {
            Due.refuses(x, "let(0, 0, " + way + ")", () -> x.let(0, 0, way), OUTSIDE);
        }
    }

    // ---- promise 17

    private static void heap() {
        Due.sentence("promise 17: 1 how many BOXES the greatest has (0)");
        BoxFlickers x = new BoxFlickers();
        Due.are("heap() of none", Due.heaps(x), 0, 0, 0, 0);
        Due.bring(x, CUBE);
        Due.are("heap() of one", Due.heaps(x), 1, 1, 1, 1);
        Due.bring(x, "5:6,0:1,0:1;5:6,0:1,0:1;5:6,0:1,0:1;0:1,0:1,0:1");
        Due.are("heap() of two and three", Due.heaps(x), 2, 3, 14, 3);
        x.remove(31);
        Due.are("heap() of none again", Due.heaps(x), 0, 0, 0, 0);
        Due.are("heap() of twelve", Due.heaps(Due.with(FOUR, FOUR, FOUR)), 1, 12, 4095, 12);
        Due.sentence("promise 17: OUTSIDE.");
        for (int what : beyond(3)) {
            Due.refuses(x, "heap(" + what + ")", () -> x.heap(what), OUTSIDE);
        }
    }

    // ---- promise 18

    private static int probe(BoxFlickers x, int axis, int low, int high) {
        int[] p = {0, 1, 0, 1, 0, 1};
        p[2 * axis] = low;
        p[2 * axis + 1] = high;
        return x.probe(p[0], p[1], p[2], p[3], p[4], p[5]);
    }

    private static void probe() {
        Due.sentence("promise 18: OUTSIDE: an END is not between -999 and 999, LOW is not below HIGH.");
        BoxFlickers x = Due.with("-999:999,-999:999,-999:999");
        int[][] wrong = {{-1000, 0}, {0, 1000}, {-1000, 1000}, {0, 0}, {5, 4}, {999, 999}, {-999, -999}, {999, -999},
            {999, 1000}, {-1000, -999}, {1000, 1001}, {LEAST, 0}, {0, LEAST}, {GREATEST, 0}, {0, GREATEST},
            {LEAST, GREATEST}, {GREATEST, LEAST}};
        int[][] right = {{-999, 999}, {-999, -998}, {998, 999}, {0, 1}, {-1, 0}};
        for (int axis = 0; axis < 3; axis++) {
            int along = axis;
            for (int[] span : wrong) {
                String call = "probe() of " + span[0] + ":" + span[1] + " on axis " + axis;
                Due.refuses(x, call, () -> probe(x, along, span[0], span[1]), OUTSIDE);
            }
            for (int[] span : right) {
                Due.is("probe() of " + span[0] + ":" + span[1] + " on axis " + axis, probe(x, axis, span[0], span[1]), 1);
            }
        }
        Due.is("probe() of none that is wrong", new BoxFlickers().probe(0, 0, 0, 1, 0, 1), OUTSIDE);
    }

    // ---- promise 19

    private static void count() {
        Due.sentence("promise 19: OUTSIDE.");
        BoxFlickers x = Due.with(CUBE);
        for (int what : beyond(9)) {
            Due.refuses(x, "count(" + what + ")", () -> x.count(what), OUTSIDE);
        }
        nothingBecameAnother();
        countsOfAll();
    }

    private static void nothingBecameAnother() {
        Due.sentence("promise 19: 7 CHANGES ever (those by which nothing became another thing, too)");
        BoxFlickers x = Due.with(CUBE);
        x.move(0, 0, 0, 0);
        Due.is("count(7) behind move() by nothing", x.count(7), 2);
        x.lay(0, 0, 0, 1);
        Due.is("count(7) behind lay() as it is", x.count(7), 3);
        x.touch(false);
        Due.is("count(7) behind touch() as it is", x.count(7), 4);
        x.move(0, 1000, 0, 0);
        x.lay(0, 0, 1, 1);
        x.remove(2);
        x.boxes();
        Due.is("count(7) behind refusals", x.count(7), 4);
    }

    private static void countsOfAll() {
        Due.sentence("promise 19: 0 letters of THE PAGE, 1 BOXES, 2 pairs that OVERLAP, 3 BEGUN ever, 4 ENDED ever");
        BoxFlickers x = new BoxFlickers();
        Due.are("count() at first", Due.counts(x), 0, 0, 0, 0, 0, 0, 0, 0, 0, 0);
        Due.bring(x, FOUR);
        Due.bring(x, FOUR);
        Due.bring(x, FOUR);
        for (int i = 0; i < 60; i++) {
            x.letter('7');
        }
        x.touch(true);
        Due.are("count() of all that is full", Due.counts(x), 60, 12, 66, 66, 0, 0, 0, 4, 1, 4095);
        x.remove(4095);
        Due.are("count() of what all went", Due.counts(x), 60, 0, 0, 66, 66, 0, 0, 5, 1, 0);
    }

    // ---- promise 20

    private static long fold(long h, long... numbers) {
        for (long number : numbers) {
            h = 31 * h + number;
        }
        return h;
    }

    private static void digest() {
        Due.sentence("promise 20: h is 1657, then for each of these numbers, in order, 31 times h, and it (as longs, wrapping)");
        BoxFlickers x = new BoxFlickers();
        BigInteger whole = BigInteger.valueOf(31).pow(21).multiply(BigInteger.valueOf(1657));
        Due.that("21 numbers are too great for a long", whole.bitLength() > 64);
        Due.is("digest() of a new object, wrapped around", x.digest(), whole.longValue());
        x.touch(true);
        long h = fold(fold(1657, new long[18]), 1, 1, 0);
        Due.is("digest() while touching", x.digest(), h);
        for (int i = 0; i < 60; i++) {
            x.letter(32 + i);
        }
        h = fold(1657, new long[11]);
        for (int i = 0; i < 60; i++) {
            h = fold(h, 32 + i);
        }
        Due.is("digest() of a full page", x.digest(), fold(h, 60, 0, 0, 0, 0, 0, 0, 1, 1, 0));
        digestOfTwelve();
    }

    /** As the document tells it, from the other calls; on two objects alike, as one has 512 calls. */
    private static void digestOfTwelve() {
        BoxFlickers x = twelveButOneAside();
        BoxFlickers y = twelveButOneAside();
        long h = 1657;
        for (int box = 0; box < 12; box++) {
            h = fold(fold(h, box), Due.box(x, box));
            for (int axis = 0; axis < 3; axis++) {
                h = fold(h, x.let(box, axis, -1), x.let(box, axis, 1));
            }
        }
        for (int axis = 0; axis < 3; axis++) {
            for (int place = 0; place < 24; place++) {
                h = fold(h, y.end(axis, place, 0), y.end(axis, place, 1), y.end(axis, place, 2));
            }
        }
        h = fold(h, Due.pairs(x));
        for (int place = 0; place < 11; place++) {
            h = fold(h, y.event(place, 0), y.event(place, 1));
        }
        h = fold(fold(fold(h, Due.latest(x)), Due.heaps(x)), Due.counts(x));
        Due.is("digest() of twelve", x.digest(), h);
        Due.is("digest() of twelve alike", y.digest(), h);
    }

    private static BoxFlickers twelveButOneAside() {
        BoxFlickers x = Due.with(FOUR, FOUR, FOUR);
        Due.is("move(3, ..)", x.move(3, 1, 0, 0), 8 + 11 + 8);
        return x;
    }
}
