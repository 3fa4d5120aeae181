/** Promises 6 to 9 and section 2 of the document: remove, move, lay, touch, and what a CHANGE tells. */
public final class ChangesTest {
    public static void main(String[] args) {
        remove();
        removeRefused();
        moveEndByEnd();
        moveAxisByAxis();
        moveNowhere();
        moveRefused();
        swapsAmongLikeEnds();
        lay();
        layRefused();
        touch();
        flickersWhilePassing();
        flickersOfTheWayOnly();
        Due.close("ChangesTest");
    }

    private static void remove() {
        BoxFlickers x = Due.with("0:9,0:9,0:9;1:2,1:2,1:2;3:4,1:2,1:2;1:4,1:2,1:2");
        Due.is("remove(0, 3)", x.remove(1 | 8), 2);
        Due.are("EVENTS of those that go", Due.events(x), 2 * 1, 2 * 2, 2 * 3, 2 * 15, 2 * 27);
        Due.are("latest() of those that go", Due.latest(x), 5, 0, 5, 0, 0, 0, 0);
        Due.is("count(9)", x.count(9), 6);
        Due.is("box(0, 0)", x.box(0, 0), BoxFlickers.UNKNOWN);
        Due.are("ENDS of axis 0", Due.ends(x, 0), 2, 3, 4, 5);
        Due.is("remove the rest", x.remove(6), 2);
        Due.are("count() of none", Due.counts(x), 0, 0, 0, 5, 5, 0, 0, 3, 0, 0);
    }

    private static void removeRefused() {
        BoxFlickers x = Due.with("0:1,0:1,0:1;0:1,0:1,0:1");
        Due.is("remove none", x.remove(0), BoxFlickers.OUTSIDE);
        Due.is("remove another", x.remove(4), BoxFlickers.OUTSIDE);
        Due.is("remove one and another", x.remove(5), BoxFlickers.OUTSIDE);
        Due.is("remove number 12", x.remove(1 << 12), BoxFlickers.OUTSIDE);
        Due.is("remove(-1)", x.remove(-1), BoxFlickers.OUTSIDE);
        Due.is("remove(least)", x.remove(Integer.MIN_VALUE), BoxFlickers.OUTSIDE);
        Due.are("count() behind refusals", Due.counts(x), 0, 2, 1, 1, 0, 0, 0, 1, 0, 3);
        Due.are("latest() behind refusals", Due.latest(x), 1, 1, 0, 0, 0, 0, 0);
    }

    /** Box 1 runs through box 0: HIGH first upwards and LOW first downwards, so that they meet on the way. */
    private static void moveEndByEnd() {
        BoxFlickers x = Due.with("10:20,0:5,0:5;0:5,0:5,0:5");
        Due.is("move up past", x.move(1, 30, 0, 0), 4);
        Due.are("latest() up past", Due.latest(x), 0, 0, 0, 2, 4, 0, 0);
        Due.are("ENDS up past", Due.ends(x, 0), 0, 1, 2, 3);
        Due.is("move down past", x.move(1, -30, 0, 0), 4);
        Due.are("latest() down past", Due.latest(x), 0, 0, 0, 2, 4, 0, 0);
        Due.is("move into", x.move(1, 8, 0, 0), 1);
        Due.are("latest() into", Due.latest(x), 1, 1, 0, 0, 1, 0, 0);
        Due.are("EVENTS into", Due.events(x), 3);
        Due.is("move out", x.move(1, -8, 0, 0), 1);
        Due.are("EVENTS out", Due.events(x), 2);
        Due.are("count()", Due.counts(x), 0, 2, 0, 1, 1, 10, 4, 5, 0, 3);
    }

    /** Axis 0 is altered first: there the boxes overlap for a while, as they still meet on axis 1. */
    private static void moveAxisByAxis() {
        BoxFlickers x = Due.with("10:20,0:5,0:5;0:5,0:5,0:5");
        Due.is("move aslant", x.move(1, 12, 10, 0), 3);
        Due.are("latest() aslant", Due.latest(x), 0, 0, 0, 2, 2, 1, 0);
        Due.is("move back", x.move(1, -12, -10, 0), 3);
        Due.are("latest() back", Due.latest(x), 0, 0, 0, 0, 2, 1, 0);
        Due.is("axis 0, then axis 2", x.move(1, 12, 0, 9), 3);
        Due.are("latest() axis 2", Due.latest(x), 0, 0, 0, 2, 2, 0, 1);
        Due.is("box(1, 4)", x.box(1, 4), 9);
    }

    private static void moveNowhere() {
        BoxFlickers x = Due.with("0:5,0:5,0:5;1:2,1:2,1:2");
        Due.is("move by 0", x.move(0, 0, 0, 0), 0);
        Due.are("latest() by 0", Due.latest(x), 0, 0, 0, 0, 0, 0, 0);
        Due.is("event(0, 0) by 0", x.event(0, 0), BoxFlickers.UNKNOWN);
        Due.is("count(7): a change all the same", x.count(7), 2);
    }

    private static void moveRefused() {
        BoxFlickers x = Due.with("-999:-990,0:9,990:999");
        Due.is("move of another", x.move(1, 0, 0, 0), BoxFlickers.UNKNOWN);
        Due.is("move of -1", x.move(-1, 0, 0, 0), BoxFlickers.UNKNOWN);
        Due.is("move of 12, UNKNOWN first", x.move(12, 9999, 0, 0), BoxFlickers.UNKNOWN);
        Due.is("move of 32", x.move(32, 0, 0, 0), BoxFlickers.UNKNOWN);
        Due.is("LOW too far on axis 0", x.move(0, -1, 0, 0), BoxFlickers.OUTSIDE);
        Due.is("HIGH too far on axis 0", x.move(0, 1990, 0, 0), BoxFlickers.OUTSIDE);
        Due.is("LOW too far on axis 1", x.move(0, 0, -1000, 0), BoxFlickers.OUTSIDE);
        Due.is("HIGH too far on axis 1", x.move(0, 0, 991, 0), BoxFlickers.OUTSIDE);
        Due.is("HIGH too far on axis 2", x.move(0, 1, 1, 1), BoxFlickers.OUTSIDE);
        Due.is("LOW too far on axis 2", x.move(0, 1, 1, -1990), BoxFlickers.OUTSIDE);
        Due.is("the greatest dx", x.move(0, Integer.MAX_VALUE, 0, 0), BoxFlickers.OUTSIDE);
        Due.is("the least dy", x.move(0, 0, Integer.MIN_VALUE, 0), BoxFlickers.OUTSIDE);
        Due.is("the greatest dz", x.move(0, 0, 0, Integer.MAX_VALUE), BoxFlickers.OUTSIDE);
        Due.are("box 0 stays", Due.box(x, 0), -999, -990, 0, 9, 990, 999, 0, 0, 0);
        Due.is("count(7)", x.count(7), 1);
        Due.is("as far as can be", x.move(0, 1989, 990, -1989), 0);
        Due.are("box 0 there", Due.box(x, 0), 990, 999, 990, 999, -999, -990, 0, 0, 0);
    }

    /** Ends of the same kind and number go by the numbers of their boxes; swaps of one kind count too. */
    private static void swapsAmongLikeEnds() {
        BoxFlickers x = Due.with("0:9,0:1,0:1;0:9,0:1,0:1;0:9,0:1,0:1");
        Due.are("like ENDS", Due.ends(x, 0), 0, 2, 4, 1, 3, 5);
        Due.is("move(0, 1)", x.move(0, 1, 0, 0), 4);
        Due.are("ENDS behind", Due.ends(x, 0), 2, 4, 0, 3, 5, 1);
        Due.are("latest()", Due.latest(x), 0, 0, 0, 0, 4, 0, 0);
        Due.is("move(1, 1)", x.move(1, 1, 0, 0), 4);
        Due.are("ENDS behind both", Due.ends(x, 0), 4, 0, 2, 5, 1, 3);
        Due.is("count(5)", x.count(5), 8);
    }

    private static void lay() {
        BoxFlickers x = Due.with("0:10,0:10,0:10;20:30,0:10,0:10;4:6,0:10,0:10");
        Due.is("lay wider", x.lay(0, 0, -5, 25), 1);
        Due.are("latest() wider", Due.latest(x), 1, 1, 0, 0, 1, 0, 0);
        Due.are("EVENTS wider", Due.events(x), 2 * 1 + 1);
        Due.is("lay narrower", x.lay(0, 0, 5, 6), 3);
        Due.are("ENDS narrower", Due.ends(x, 0), 4, 0, 1, 5, 2, 3);
        Due.are("latest() narrower", Due.latest(x), 1, 0, 1, 0, 3, 0, 0);
        Due.is("lay the HIGH alone", x.lay(0, 0, 5, 30), 2);
        Due.are("ENDS of like HIGHS", Due.ends(x, 0), 4, 0, 5, 2, 1, 3);
        Due.is("lay on axis 2", x.lay(0, 2, 10, 11), 6);
        Due.are("latest() on axis 2", Due.latest(x), 2, 0, 2, 0, 0, 0, 6);
        Due.is("lay as it is", x.lay(0, 2, 10, 11), 0);
        Due.are("latest() as it is", Due.latest(x), 0, 0, 0, 0, 0, 0, 0);
        Due.are("box 0", Due.box(x, 0), 5, 30, 0, 10, 10, 11, 0, 0, 0);
        Due.is("count(7)", x.count(7), 6);
    }

    private static void layRefused() {
        BoxFlickers x = Due.with("0:1,0:1,0:1");
        Due.is("lay another", x.lay(1, 0, 0, 1), BoxFlickers.UNKNOWN);
        Due.is("lay -1", x.lay(-1, 0, 0, 1), BoxFlickers.UNKNOWN);
        Due.is("lay 12", x.lay(12, 0, 0, 1), BoxFlickers.UNKNOWN);
        Due.is("lay on axis -1", x.lay(0, -1, 0, 1), BoxFlickers.UNKNOWN);
        Due.is("lay on axis 3, UNKNOWN first", x.lay(0, 3, 1, 0), BoxFlickers.UNKNOWN);
        Due.is("lay from -1000", x.lay(0, 0, -1000, 1), BoxFlickers.OUTSIDE);
        Due.is("lay to 1000", x.lay(0, 0, 0, 1000), BoxFlickers.OUTSIDE);
        Due.is("lay of no length", x.lay(0, 0, 5, 5), BoxFlickers.OUTSIDE);
        Due.is("lay backwards", x.lay(0, 0, 6, 5), BoxFlickers.OUTSIDE);
        Due.is("lay from least to greatest", x.lay(0, 0, Integer.MIN_VALUE, Integer.MAX_VALUE), BoxFlickers.OUTSIDE);
        Due.are("box 0 stays", Due.box(x, 0), 0, 1, 0, 1, 0, 1, 0, 0, 0);
        Due.is("count(7)", x.count(7), 1);
        Due.is("lay as wide as can be", x.lay(0, 1, -999, 999), 0);
        Due.are("box 0 there", Due.box(x, 0), 0, 1, -999, 999, 0, 1, 0, 0, 0);
    }

    private static void touch() {
        BoxFlickers x = Due.with("0:5,0:5,0:5;5:9,0:5,0:5;9:10,5:6,5:9");
        Due.are("ENDS without touching", Due.ends(x, 0), 0, 1, 2, 3, 4, 5);
        Due.is("touch(false) at first", x.touch(false), 0);
        Due.is("touch(true)", x.touch(true), 0);
        Due.are("EVENTS of touch(true)", Due.events(x), 2 * 1 + 1, 2 * 14 + 1);
        Due.are("latest() of touch(true)", Due.latest(x), 2, 2, 0, 0, 0, 0, 0);
        Due.are("ENDS with touching", Due.ends(x, 0), 0, 2, 1, 4, 3, 5);
        Due.is("count(8)", x.count(8), 1);
        Due.is("touch(true) again", x.touch(true), 1);
        Due.are("latest() of the same", Due.latest(x), 0, 0, 0, 0, 0, 0, 0);
        Due.is("swaps while touching counts", x.move(1, 1, 0, 0), 1);
        Due.are("latest() of that", Due.latest(x), 1, 0, 1, 0, 1, 0, 0);
        Due.is("touch(false)", x.touch(false), 1);
        Due.are("EVENTS of touch(false)", Due.events(x), 2 * 14);
        Due.are("count()", Due.counts(x), 0, 3, 0, 2, 2, 1, 0, 6, 0, 7);
    }

    /** Past three boxes, back into the first past two: each pair passed begins and ends on the way. */
    private static void flickersWhilePassing() {
        BoxFlickers x = Due.with("0:10,0:9,0:9;20:30,0:9,0:9;40:50,0:9,0:9", "-20:-15,0:9,0:9");
        Due.is("move past all", x.move(3, 80, 0, 0), 12);
        Due.are("latest() past all", Due.latest(x), 0, 0, 0, 6, 12, 0, 0);
        Due.is("move back into the first", x.move(3, -54, 0, 0), 9);
        Due.are("latest() back", Due.latest(x), 1, 1, 0, 4, 9, 0, 0);
        Due.is("move to a like HIGH", x.move(3, -1, 0, 0), 0);
        Due.is("move farther into it", x.move(3, -3, 0, 0), 1);
        Due.are("latest() farther", Due.latest(x), 0, 0, 0, 0, 1, 0, 0);
        Due.is("count(6)", x.count(6), 10);
    }

    /** By axis 1 they begin to overlap, by axis 2 they end to: no event, two flickers. */
    private static void flickersOfTheWayOnly() {
        BoxFlickers x = Due.with("0:10,0:10,0:10;0:10,20:30,0:10");
        Due.is("into by axis 1, out by axis 2", x.move(1, 0, -20, 20), 2);
        Due.are("latest()", Due.latest(x), 0, 0, 0, 2, 0, 1, 1);
    }
}
