/** Promises 10 to 20: all that is told. */
public final class ToldTest {
    private static final int LEAST = Integer.MIN_VALUE;
    private static final int GREATEST = Integer.MAX_VALUE;

    public static void main(String[] args) {
        box();
        end();
        meet();
        pair();
        event();
        latest();
        letApartAndTogether();
        letWhileTouching();
        letToTheBorder();
        letRefused();
        groups();
        deepest();
        probe();
        count();
        digestOfNothing();
        digestOfAll();
        tellingChangesNothing();
        Due.close("ToldTest");
    }

    private static BoxFlickers chain() {
        return Due.with("0:10,0:10,0:10;30:40,0:10,0:10;9:15,-5:5,9:11", "14:31,4:6,10:20");
    }

    private static void box() {
        BoxFlickers x = chain();
        Due.are("box 0", Due.box(x, 0), 0, 10, 0, 10, 0, 10, 1, 4, 0);
        Due.are("box 1", Due.box(x, 1), 30, 40, 0, 10, 0, 10, 0, 0, 1);
        Due.are("box 2", Due.box(x, 2), 9, 15, -5, 5, 9, 11, 2, 1 | 8, 0);
        Due.are("box 3", Due.box(x, 3), 14, 31, 4, 6, 10, 20, 1, 4, 0);
        x.touch(true);
        Due.are("box 3, touching", Due.box(x, 3), 14, 31, 4, 6, 10, 20, 2, 2 | 4, 0);
        Due.is("box(1, 8), touching", x.box(1, 8), 0);
        Due.is("box(4, 0)", x.box(4, 0), BoxFlickers.UNKNOWN);
        Due.is("box(-1, 0)", x.box(-1, 0), BoxFlickers.UNKNOWN);
        Due.is("box(12, 9), UNKNOWN first", x.box(12, 9), BoxFlickers.UNKNOWN);
        Due.is("box(32, 0)", x.box(32, 0), BoxFlickers.UNKNOWN);
        Due.is("box(least, 0)", x.box(LEAST, 0), BoxFlickers.UNKNOWN);
        Due.is("box(0, 9)", x.box(0, 9), BoxFlickers.OUTSIDE);
        Due.is("box(0, -1)", x.box(0, -1), BoxFlickers.OUTSIDE);
    }

    private static void end() {
        BoxFlickers x = Due.with("3:7,-1:0,0:4;5:9,-3:-1,2:4;7:8,0:9,2:3");
        Due.are("axis 0", Due.ends(x, 0), 0, 2, 1, 4, 5, 3);
        Due.are("axis 1", Due.ends(x, 1), 2, 3, 0, 1, 4, 5);
        Due.are("axis 2", Due.ends(x, 2), 0, 2, 4, 5, 1, 3);
        Due.is("end(0, 2, 2)", x.end(0, 2, 2), 7);
        Due.is("end(1, 0, 2)", x.end(1, 0, 2), -3);
        Due.is("end(2, 5, 2)", x.end(2, 5, 2), 4);
        x.touch(true);
        Due.are("axis 0, touching", Due.ends(x, 0), 0, 2, 4, 1, 5, 3);
        Due.are("axis 1, touching", Due.ends(x, 1), 2, 0, 3, 4, 1, 5);
        Due.is("end(-1, 0, 0)", x.end(-1, 0, 0), BoxFlickers.UNKNOWN);
        Due.is("end(3, 0, 0)", x.end(3, 0, 0), BoxFlickers.UNKNOWN);
        Due.is("end(0, -1, 0)", x.end(0, -1, 0), BoxFlickers.UNKNOWN);
        Due.is("end(0, 6, 3), UNKNOWN first", x.end(0, 6, 3), BoxFlickers.UNKNOWN);
        Due.is("end(0, greatest, 0)", x.end(0, GREATEST, 0), BoxFlickers.UNKNOWN);
        Due.is("end(0, 5, 3)", x.end(0, 5, 3), BoxFlickers.OUTSIDE);
        Due.is("end(0, 0, -1)", x.end(0, 0, -1), BoxFlickers.OUTSIDE);
    }

    private static void meet() {
        BoxFlickers x = Due.with("0:5,0:5,0:5;5:9,5:9,5:9;4:6,5:6,9:10;1:2,1:2,1:9");
        Due.is("meet(0, 1)", x.meet(0, 1), 0);
        Due.is("meet(1, 0)", x.meet(1, 0), 0);
        Due.is("meet(0, 2)", x.meet(0, 2), 1);
        Due.is("meet(2, 1)", x.meet(2, 1), 2);
        Due.is("meet(3, 0)", x.meet(3, 0), 3);
        Due.is("meet(3, 2)", x.meet(3, 2), 0);
        x.touch(true);
        Due.is("meet(0, 1), touching", x.meet(0, 1), 3);
        Due.is("meet(0, 2), touching", x.meet(0, 2), 2);
        Due.is("meet(2, 1), touching", x.meet(2, 1), 3);
        Due.is("meet(3, 2), touching", x.meet(3, 2), 1);
        Due.is("meet(2, 2)", x.meet(2, 2), BoxFlickers.UNKNOWN);
        Due.is("meet(0, 4)", x.meet(0, 4), BoxFlickers.UNKNOWN);
        Due.is("meet(4, 0)", x.meet(4, 0), BoxFlickers.UNKNOWN);
        Due.is("meet(-1, 0)", x.meet(-1, 0), BoxFlickers.UNKNOWN);
        Due.is("meet(0, 12)", x.meet(0, 12), BoxFlickers.UNKNOWN);
        Due.is("meet(greatest, least)", x.meet(GREATEST, LEAST), BoxFlickers.UNKNOWN);
    }

    private static void pair() {
        BoxFlickers x = chain();
        Due.are("pairs", Due.pairs(x), 2, 24 + 3);
        x.lay(1, 0, 5, 40);
        x.lay(1, 2, 0, 11);
        Due.are("pairs behind lay()", Due.pairs(x), 1, 2, 12 + 2, 12 + 3, 24 + 3);
        Due.is("pair(5)", x.pair(5), BoxFlickers.UNKNOWN);
        Due.is("pair(-1)", x.pair(-1), BoxFlickers.UNKNOWN);
        Due.is("pair(greatest)", x.pair(GREATEST), BoxFlickers.UNKNOWN);
        Due.is("pair(least)", x.pair(LEAST), BoxFlickers.UNKNOWN);
    }

    private static void event() {
        BoxFlickers x = chain();
        Due.are("EVENTS of the last batch", Due.events(x), 2 * 27 + 1);
        x.move(2, 5, 0, 0);
        Due.are("EVENTS of a move", Due.events(x), 2 * 2);
        x.lay(2, 0, 0, 35);
        Due.are("EVENTS of lay(), both kinds of order", Due.events(x), 2 * 2 + 1, 2 * 14 + 1);
        x.lay(2, 0, 32, 35);
        Due.are("EVENTS that end", Due.events(x), 2 * 2, 2 * 27);
        x.move(2, -20, 0, 0);
        Due.are("EVENTS of both kinds", Due.events(x), 2 * 14, 2 * 27 + 1);
        Due.is("event(2, 0)", x.event(2, 0), BoxFlickers.UNKNOWN);
        Due.is("event(-1, 0)", x.event(-1, 0), BoxFlickers.UNKNOWN);
        Due.is("event(2, 2), UNKNOWN first", x.event(2, 2), BoxFlickers.UNKNOWN);
        Due.is("event(greatest, 0)", x.event(GREATEST, 0), BoxFlickers.UNKNOWN);
        Due.is("event(0, 2)", x.event(0, 2), BoxFlickers.OUTSIDE);
        Due.is("event(0, -1)", x.event(0, -1), BoxFlickers.OUTSIDE);
    }

    private static void latest() {
        BoxFlickers x = chain();
        x.move(2, 20, 10, 1);
        Due.are("latest()", Due.latest(x), 1, 0, 1, 2, 4, 6, 2);
        Due.is("latest(-1)", x.latest(-1), BoxFlickers.OUTSIDE);
        Due.is("latest(7)", x.latest(7), BoxFlickers.OUTSIDE);
        Due.is("latest(7) of a new object", new BoxFlickers().latest(7), BoxFlickers.OUTSIDE);
        x.move(2, 5000, 0, 0);
        Due.are("latest() behind a refusal", Due.latest(x), 1, 0, 1, 2, 4, 6, 2);
    }

    private static void lets(String state, BoxFlickers x, int box, int axis, int down, int up) {
        Due.is("let(" + box + ", " + axis + ", -1) " + state, x.let(box, axis, -1), down);
        Due.is("let(" + box + ", " + axis + ", 1) " + state, x.let(box, axis, 1), up);
    }

    private static void letApartAndTogether() {
        BoxFlickers x = Due.with("0:10,0:10,0:10;20:30,0:10,0:10;22:24,2:4,20:30");
        lets("apart", x, 0, 0, BoxFlickers.NONE, 11);
        lets("apart", x, 1, 0, 11, BoxFlickers.NONE);
        lets("not beside it on two axes", x, 0, 2, BoxFlickers.NONE, BoxFlickers.NONE);
        lets("on the third axis", x, 1, 2, BoxFlickers.NONE, 11);
        lets("on the third axis", x, 2, 2, 11, BoxFlickers.NONE);
        x.move(0, 11, 0, 0);
        lets("overlapping by 1", x, 0, 0, 1, 19);
        lets("overlapping by 1", x, 1, 0, 19, 1);
        lets("overlapping, another axis", x, 0, 1, 10, 10);
        x.move(0, -1, 0, 0);
        lets("side by side", x, 0, 0, BoxFlickers.NONE, 1);
    }

    private static void letWhileTouching() {
        BoxFlickers x = Due.with("0:10,0:10,0:10;20:30,0:10,0:10");
        x.touch(true);
        lets("apart, touching", x, 0, 0, BoxFlickers.NONE, 10);
        lets("apart, touching", x, 1, 0, 10, BoxFlickers.NONE);
        x.move(0, 10, 0, 0);
        lets("side by side, touching", x, 0, 0, 1, 21);
        lets("side by side, touching", x, 1, 0, 21, 1);
        lets("another axis, touching", x, 1, 1, 11, 11);
    }

    private static void letToTheBorder() {
        BoxFlickers x = Due.with("989:998,0:1,0:1;990:999,0:1,0:1;980:989,0:1,0:1");
        lets("at the border", x, 2, 0, BoxFlickers.NONE, 1);
        lets("no way left", x, 1, 0, 2, BoxFlickers.NONE);
        x.remove(4);
        lets("1 left, 10 wanted", x, 0, 0, 8, BoxFlickers.NONE);
        BoxFlickers y = Due.with("-990:-989,0:1,0:1;-999:-998,0:1,0:1;998:999,0:1,0:1");
        lets("from end to end", y, 2, 0, 1988, BoxFlickers.NONE);
        lets("to the last", y, 0, 0, 9, 1988);
        lets("no way left", y, 1, 0, BoxFlickers.NONE, 9);
        BoxFlickers z = Due.with("0:5,0:1,0:1;4:999,0:1,0:1;-999:1,0:1,0:1");
        lets("until an end at the border", z, 0, 0, 1, 1);
        z.lay(1, 0, 994, 999);
        z.lay(2, 0, -999, -994);
        lets("exactly to the border", z, 0, 0, 995, 990);
        z.touch(true);
        z.lay(1, 0, 998, 999);
        z.lay(2, 0, -999, -998);
        lets("touching near the border", z, 0, 0, 998, 993);
        z.touch(false);
        lets("all the way", z, 0, 0, 999, 994);
        BoxFlickers w = Due.with("990:995,0:1,0:1;980:995,0:1,0:1", "-995:-990,0:1,0:1;-995:-980,0:1,0:1");
        lets("out of it 1 beyond the border", w, 0, 0, 15, BoxFlickers.NONE);
        lets("the great one, 1 beyond", w, 1, 0, 5, BoxFlickers.NONE);
        lets("the other way, 1 beyond", w, 2, 0, BoxFlickers.NONE, 15);
        w.lay(1, 0, 980, 994);
        w.lay(3, 0, -994, -984);
        lets("out of it at the border", w, 0, 0, 15, 4);
        lets("out of it at the other border", w, 2, 0, 4, 11);
    }

    private static void letRefused() {
        BoxFlickers x = Due.with("0:1,0:1,0:1");
        Due.is("let() of one alone", x.let(0, 0, 1), BoxFlickers.NONE);
        Due.is("let(1, 0, 1)", x.let(1, 0, 1), BoxFlickers.UNKNOWN);
        Due.is("let(-1, 0, 1)", x.let(-1, 0, 1), BoxFlickers.UNKNOWN);
        Due.is("let(12, 0, 1)", x.let(12, 0, 1), BoxFlickers.UNKNOWN);
        Due.is("let(0, 3, 0), UNKNOWN first", x.let(0, 3, 0), BoxFlickers.UNKNOWN);
        Due.is("let(0, -1, 1)", x.let(0, -1, 1), BoxFlickers.UNKNOWN);
        Due.is("let(0, 0, 0)", x.let(0, 0, 0), BoxFlickers.OUTSIDE);
        Due.is("let(0, 0, 2)", x.let(0, 0, 2), BoxFlickers.OUTSIDE);
        Due.is("let(0, 0, -2)", x.let(0, 0, -2), BoxFlickers.OUTSIDE);
        Due.is("let(0, 0, least)", x.let(0, 0, LEAST), BoxFlickers.OUTSIDE);
    }

    private static void groups() {
        BoxFlickers x = chain();
        Due.are("heap() of a chain", Due.heaps(x), 2, 3, 1 | 4, 2);
        x.touch(true);
        Due.are("heap() of one group", Due.heaps(x), 1, 4, 1 | 4, 2);
        x.touch(false);
        x.remove(4);
        Due.are("heap() of single boxes", Due.heaps(x), 3, 1, 1, 1);
        x.remove(2 | 8);
        Due.are("heap() of box 0 alone", Due.heaps(x), 1, 1, 1, 1);
        Due.is("heap(-1)", x.heap(-1), BoxFlickers.OUTSIDE);
        Due.is("heap(4)", x.heap(4), BoxFlickers.OUTSIDE);
        BoxFlickers y = Due.with("8:10,0:1,0:1;0:2,0:1,0:1;6:9,0:1,0:1;4:7,0:1,0:1", "1:3,0:1,0:1;2:5,0:1,0:1");
        Due.are("heap() of a long chain", Due.heaps(y), 1, 6, 1 | 4, 2);
        Due.is("box(1, 8) at the far end", y.box(1, 8), 0);
        y.remove(1);
        Due.is("box(5, 8) behind remove()", y.box(5, 8), 1);
        Due.are("heap() behind remove()", Due.heaps(y), 1, 5, 4 | 8, 2);
    }

    private static void deepest() {
        BoxFlickers x = Due.with("0:9,0:9,0:9;1:2,0:9,0:9;3:4,0:9,0:9;5:8,0:9,0:9", "5:7,0:9,0:9;3:5,0:9,0:9");
        Due.are("the least of two heaps", Due.heaps(x), 1, 6, 1 | 8 | 16, 3);
        x.move(5, 1, 0, 0);
        Due.are("the deepest", Due.heaps(x), 1, 6, 1 | 8 | 16 | 32, 4);
        x.remove(1);
        Due.are("the deepest without the great one", Due.heaps(x), 3, 3, 8 | 16 | 32, 3);
        BoxFlickers y = Due.with("0:1,0:1,0:1;5:6,0:1,0:1;5:6,0:1,0:1;0:1,0:1,0:1");
        Due.are("by the sum, not by the least number", Due.heaps(y), 2, 2, 2 | 4, 2);
        BoxFlickers z = new BoxFlickers();
        for (int i = 0; i < 12; i++) {
            Due.bring(z, "0:9,0:9,0:9");
        }
        Due.are("twelve in one heap", Due.heaps(z), 1, 12, 4095, 12);
        Due.is("66 pairs", z.count(2), 66);
        Due.is("pair(65)", z.pair(65), 12 * 10 + 11);
        z.remove(4095);
        Due.are("66 EVENTS", Due.latest(z), 66, 0, 66, 0, 0, 0, 0);
        Due.is("event(65, 0)", z.event(65, 0), 12 * 10 + 11);
    }

    private static void probe() {
        BoxFlickers x = Due.with("0:10,0:10,0:10;20:30,5:10,0:10;10:20,0:10,0:10");
        Due.is("probe of all", x.probe(-999, 999, -999, 999, -999, 999), 7);
        Due.is("probe between", x.probe(10, 20, 0, 10, 0, 10), 4);
        Due.is("probe a bit more", x.probe(9, 21, 5, 6, 3, 4), 7);
        Due.is("probe below on axis 1", x.probe(0, 30, 0, 5, 0, 10), 5);
        Due.is("probe behind on axis 2", x.probe(0, 30, 0, 5, 10, 11), 0);
        Due.is("probe within", x.probe(1, 2, 1, 2, 1, 2), 1);
        x.touch(true);
        Due.is("probe between, touching", x.probe(10, 20, 0, 10, 0, 10), 7);
        Due.is("probe a corner, touching", x.probe(30, 31, 10, 11, 10, 11), 2);
        Due.is("probe near a corner, touching", x.probe(31, 32, 10, 11, 10, 11), 0);
        Due.is("probe from -1000 on axis 0", x.probe(-1000, 0, 0, 1, 0, 1), BoxFlickers.OUTSIDE);
        Due.is("probe to 1000 on axis 0", x.probe(0, 1000, 0, 1, 0, 1), BoxFlickers.OUTSIDE);
        Due.is("probe of no length on axis 1", x.probe(0, 1, 1, 1, 0, 1), BoxFlickers.OUTSIDE);
        Due.is("probe to 1000 on axis 1", x.probe(0, 1, 1, 1000, 0, 1), BoxFlickers.OUTSIDE);
        Due.is("probe backwards on axis 2", x.probe(0, 1, 0, 1, 1, 0), BoxFlickers.OUTSIDE);
        Due.is("probe from -1000 on axis 2", x.probe(0, 1, 0, 1, -1000, 0), BoxFlickers.OUTSIDE);
        Due.is("probe far out", x.probe(LEAST, GREATEST, 0, 1, 0, 1), BoxFlickers.OUTSIDE);
        Due.is("probe is no change", x.count(7), 2);
        Due.is("probe of nothing", new BoxFlickers().probe(0, 1, 0, 1, 0, 1), 0);
    }

    private static void count() {
        BoxFlickers x = chain();
        x.move(2, 20, 10, 1);
        x.touch(true);
        Due.write(x, "1:2");
        Due.are("count()", Due.counts(x), 3, 4, 3, 4, 1, 12, 2, 4, 1, 15);
        Due.is("count(-1)", x.count(-1), BoxFlickers.OUTSIDE);
        Due.is("count(10)", x.count(10), BoxFlickers.OUTSIDE);
        Due.is("count(greatest)", x.count(GREATEST), BoxFlickers.OUTSIDE);
    }

    private static void digestOfNothing() {
        long h = 1657;
        for (int i = 0; i < 7 + 4 + 10; i++) {
            h *= 31;
        }
        Due.is("digest() of a new object", new BoxFlickers().digest(), h);
    }

    private static long fold(long h, long... numbers) {
        for (long number : numbers) {
            h = 31 * h + number;
        }
        return h;
    }

    private static void digestOfAll() {
        BoxFlickers x = Due.with("0:5,0:5,0:5;4:9,0:5,0:5");
        x.move(1, 1, 0, 0);
        Due.write(x, "~ ");
        long h = 1657;
        h = fold(h, 0, 0, 5, 0, 5, 0, 5, 0, 0, 0, -10001, 1, -10001, -10001, -10001, -10001);
        h = fold(h, 1, 5, 10, 0, 5, 0, 5, 0, 0, 1, 1, -10001, -10001, -10001, -10001, -10001);
        h = fold(h, 0, 0, 0, 0, 1, 5, 1, 0, 5, 1, 1, 10);
        h = fold(h, 0, 0, 0, 1, 0, 0, 0, 1, 5, 1, 1, 5);
        h = fold(h, 0, 0, 0, 1, 0, 0, 0, 1, 5, 1, 1, 5);
        h = fold(h, 1, 0);
        h = fold(h, 1, 0, 1, 0, 1, 0, 0);
        h = fold(h, 2, 1, 1, 1);
        h = fold(h, 126, 32);
        h = fold(h, 2, 2, 0, 1, 1, 1, 0, 2, 0, 3);
        Due.is("digest() told number by number", x.digest(), h);
        x.move(1, -1, 0, 0);
        x.blank();
        h = 1657;
        h = fold(h, 0, 0, 5, 0, 5, 0, 5, 1, 2, 0, 1, 9, 5, 5, 5, 5);
        h = fold(h, 1, 4, 9, 0, 5, 0, 5, 1, 1, 0, 9, 1, 5, 5, 5, 5);
        h = fold(h, 0, 0, 0, 1, 0, 4, 0, 1, 5, 1, 1, 9);
        h = fold(h, 0, 0, 0, 1, 0, 0, 0, 1, 5, 1, 1, 5);
        h = fold(h, 0, 0, 0, 1, 0, 0, 0, 1, 5, 1, 1, 5);
        h = fold(h, 1);
        h = fold(h, 1, 1);
        h = fold(h, 1, 1, 0, 0, 1, 0, 0);
        h = fold(h, 1, 2, 3, 2);
        h = fold(h, 0, 2, 1, 2, 1, 2, 0, 3, 0, 3);
        Due.is("digest() with a pair", x.digest(), h);
    }

    private static void tellingChangesNothing() {
        BoxFlickers x = chain();
        Due.write(x, "5:");
        long before = x.digest();
        x.fault();
        x.boxes();
        x.remove(16);
        x.move(0, 5000, 0, 0);
        x.lay(0, 0, 1, 1);
        x.probe(0, 1, 0, 1, 0, 1);
        x.letter(5);
        Due.is("digest() behind refusals and what is told", x.digest(), before);
    }
}
