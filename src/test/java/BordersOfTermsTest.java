/** The borders that the document's terms name, sections 1 to 3: each sentence, by its own words, has a method here. */
public final class BordersOfTermsTest {
    private static final int NONE = BoxFlickers.NONE;
    private static final int UNKNOWN = BoxFlickers.UNKNOWN;
    private static final int OUTSIDE = BoxFlickers.OUTSIDE;
    private static final int STATE = BoxFlickers.STATE;
    private static final int FULL = BoxFlickers.FULL;
    private static final String CUBE = "0:1,0:1,0:1";
    private static final String FOUR = CUBE + ";" + CUBE + ";" + CUBE + ";" + CUBE;

    public static void main(String[] args) {
        boxes();
        termsOfTexts();
        termsOfOrder();
        changes();
        eventsAndFlickers();
        letsAndHeaps();
        refusals();
        Due.close("BordersOfTermsTest");
    }

    // ---- what a box is

    private static void boxes() {
        twelveAtMost();
        as512Calls();
        lowAndHigh();
        leastFreeNumber();
    }

    private static BoxFlickers twelveApart() {
        BoxFlickers x = new BoxFlickers();
        for (int i = 0; i < 12; i++) {
            Due.bring(x, i + ":" + (i + 1) + ",0:1,0:1");
        }
        return x;
    }

    private static void twelveAtMost() {
        Due.sentence("terms: BOXES (12 at most) have numbers 0 to 11.");
        BoxFlickers x = twelveApart();
        Due.is("count(1) of twelve", x.count(1), 12);
        Due.is("count(9) of twelve", x.count(9), 4095);
        for (int i = 0; i < 12; i++) {
            Due.is("box(" + i + ", 0)", x.box(i, 0), i);
        }
        for (int none : new int[] {-1, 12, 31, 32, 43, -32, Integer.MIN_VALUE, Integer.MAX_VALUE}) {
            Due.is("box(" + none + ", 0)", x.box(none, 0), UNKNOWN);
        }
        Due.write(x, CUBE);
        Due.refuses(x, "boxes() of the thirteenth", x::boxes, FULL);
    }

    private static void as512Calls() {
        Due.sentence("terms: An object is used for at most 512 calls after it has been made");
        BoxFlickers x = new BoxFlickers();
        Due.write(x, "0:1,0:1,0:1;2:3,0:1,0:1");
        Due.is("call 24, boxes()", x.boxes(), 2);
        for (int call = 25; call <= 510; call++) {
            Due.is("call " + call + ", past the other one", x.move(0, call % 2 == 1 ? 5 : -5, 0, 0), 4);
        }
        Due.is("call 511, count(5)", x.count(5), 4 * 486);
        Due.is("call 512, count(6)", x.count(6), 2 * 486);
    }

    private static void lowAndHigh() {
        Due.sentence("terms: A BOX has on each AXIS (0 to 2) a LOW and a HIGH (-999 to 999), LOW below HIGH.");
        Due.are("the widest", Due.box(Due.with("-999:999,-999:999,-999:999"), 0), -999, 999, -999, 999, -999, 999, 0, 0, 0);
        Due.are("the highest", Due.box(Due.with("998:999,998:999,998:999"), 0), 998, 999, 998, 999, 998, 999, 0, 0, 0);
        Due.are("the lowest", Due.box(Due.with("-999:-998,-999:-998,-999:-998"), 0),
            -999, -998, -999, -998, -999, -998, 0, 0, 0);
        for (String wrong : new String[] {"-1000:0", "0:1000", "-1000:1000", "5:5", "6:5", "0:-1", "999:999", "999:-999"}) {
            notABox(wrong + ",0:1,0:1");
            notABox("0:1," + wrong + ",0:1");
            notABox("0:1,0:1," + wrong);
        }
        BoxFlickers x = Due.with(CUBE);
        Due.refuses(x, "lay() on axis 3", () -> x.lay(0, 3, 0, 1), UNKNOWN);
        Due.refuses(x, "lay() on axis -1", () -> x.lay(0, -1, 0, 1), UNKNOWN);
    }

    private static void notABox(String text) {
        BoxFlickers x = Due.page(text);
        Due.refuses(x, "boxes() of " + text, x::boxes, STATE);
    }

    private static void leastFreeNumber() {
        Due.sentence("terms: They come all at once, one after the other with the least number that is free.");
        BoxFlickers x = Due.with("10:20,0:1,0:1;15:25,0:1,0:1;24:30,0:1,0:1");
        Due.are("EVENTS among those that come: one CHANGE", Due.events(x), 2 * 1 + 1, 2 * 14 + 1);
        Due.is("count(7)", x.count(7), 1);
        BoxFlickers y = twelveApart();
        Due.is("0, 5, 11 go", y.remove(1 | 1 << 5 | 1 << 11), 3);
        Due.bring(y, "100:101,0:1,0:1;200:201,0:1,0:1");
        Due.is("the first has 0", y.box(0, 0), 100);
        Due.is("the second has 5", y.box(5, 0), 200);
        Due.is("11 is free", y.box(11, 0), UNKNOWN);
        Due.bring(y, "300:301,0:1,0:1");
        Due.is("the third has 11", y.box(11, 0), 300);
        Due.is("others stay", y.box(6, 0), 6);
    }

    // ---- what a batch is

    private static void termsOfTexts() {
        oneToFour();
        axesInOrder();
        figures();
    }

    private static void oneToFour() {
        Due.sentence("terms: A batch of BOXES is a text: one to four BOXES with \";\" between");
        notABox("");
        Due.is("one", Due.page(CUBE).boxes(), 1);
        Due.is("two", Due.page(CUBE + ";" + CUBE).boxes(), 2);
        Due.is("three", Due.page(CUBE + ";" + CUBE + ";" + CUBE).boxes(), 3);
        Due.is("four", Due.page(FOUR).boxes(), 4);
        notABox(FOUR + ";" + CUBE);
        notABox(FOUR + ";");
        notABox(CUBE + ";");
        notABox(";" + CUBE);
        notABox(CUBE + ";;" + CUBE);
        notABox(CUBE + "," + CUBE);
        notABox(CUBE + " " + CUBE);
    }

    private static void axesInOrder() {
        Due.sentence("terms: of a BOX its AXES in order with \",\" between");
        BoxFlickers x = Due.with("1:2,3:5,7:11;-11:-7,-5:-3,-2:-1");
        Due.are("box 0", Due.box(x, 0), 1, 2, 3, 5, 7, 11, 0, 0, 0);
        Due.are("box 1", Due.box(x, 1), -11, -7, -5, -3, -2, -1, 0, 0, 1);
        notABox("1:2");
        notABox("1:2,3:4");
        notABox("1:2,3:4,");
        notABox("1:2,3:4,5:6,7:8");
        notABox("1:2,3:4;1:2,3:4,5:6");
        notABox("1:2,3:4,5:6;1:2,3:4");
        notABox("1:2;3:4;5:6");
        notABox("1:2,,3:4,5:6");
        notABox(",1:2,3:4,5:6");
        notABox("1:2:3,4:5,6:7");
    }

    private static void figures() {
        Due.sentence("terms: in figures without a 0 ahead, \"-\" ahead of a number below 0, never of 0");
        Due.are("0 and numbers with 0", Due.box(Due.with("0:10,-10:0,100:200"), 0), 0, 10, -10, 0, 100, 200, 0, 0, 0);
        Due.are("below 0", Due.box(Due.with("-9:-1,-100:-99,-1:1"), 0), -9, -1, -100, -99, -1, 1, 0, 0, 0);
        String[] wrong = {"00:1", "01:2", "-0:1", "-1:-0", "-01:2", "0:01", "0:00", "+1:2", "--1:1", "1-:2", "-:1",
            "0:-", ":1", "0:", "1.0:2", " 1:2", "1 :2", "a:b", "0x1:2", "007:9", "0:009", "-1:", "-1:-", "-1", "-"};
        for (String span : wrong) {
            notABox(span + ",0:1,0:1");
            notABox("0:1,0:1," + span);
        }
    }

    // ---- meeting, and the order of ends

    private static void termsOfOrder() {
        meetOnAnAxis();
        overlapOnAllThree();
        notTouchingAtFirst();
        likeEnds();
        likeEndsByNumbers();
    }

    /** Box 0 is 0:5 on each axis; box 1 is laid on this axis alone, on the others they meet. */
    private static void meetOnAnAxis() {
        Due.sentence("terms: Two BOXES MEET on an AXIS, if the LOW of each is below the HIGH of the other one "
            + "(TOUCHING counts: or equal to it).");
        int[][] spans = {{5, 9, 0, 1}, {4, 9, 1, 1}, {6, 9, 0, 0}, {-4, 0, 0, 1}, {-4, 1, 1, 1}, {-4, -1, 0, 0},
            {0, 5, 1, 1}, {2, 3, 1, 1}, {-999, 999, 1, 1}, {998, 999, 0, 0}, {-999, -998, 0, 0}};
        for (int axis = 0; axis < 3; axis++) {
            for (int[] span : spans) {
                BoxFlickers x = Due.with("0:5,0:5,0:5;2:3,2:3,2:3");
                x.lay(1, axis, span[0], span[1]);
                String call = " on axis " + axis + " of " + span[0] + ":" + span[1];
                Due.is("meet(0, 1)" + call, x.meet(0, 1), 2 + span[2]);
                x.touch(true);
                Due.is("meet(1, 0), touching" + call, x.meet(1, 0), 2 + span[3]);
                Due.is("count(2), touching" + call, x.count(2), span[3]);
            }
        }
    }

    private static void overlapOnAllThree() {
        Due.sentence("terms: They OVERLAP, if they MEET on all three.");
        String[] apart = {"5:9,1:2,1:2", "1:2,5:9,1:2", "1:2,1:2,5:9", "5:9,5:9,1:2", "5:9,1:2,5:9", "1:2,5:9,5:9", "5:9,5:9,5:9"};
        for (String other : apart) {
            BoxFlickers x = Due.with("0:5,0:5,0:5;" + other);
            Due.is("pair(0) with " + other, x.pair(0), UNKNOWN);
            Due.is("box(0, 6) with " + other, x.box(0, 6), 0);
        }
        BoxFlickers y = Due.with("0:5,0:5,0:5;4:9,4:9,4:9");
        Due.is("pair(0)", y.pair(0), 1);
        Due.is("box(0, 7)", y.box(0, 7), 2);
        Due.is("box(1, 7)", y.box(1, 7), 1);
    }

    private static void notTouchingAtFirst() {
        Due.sentence("terms: TOUCHING counts, or not (not, at first).");
        BoxFlickers x = new BoxFlickers();
        Due.is("count(8)", x.count(8), 0);
        Due.bring(x, "0:5,0:5,0:5;5:9,0:5,0:5");
        Due.is("count(2)", x.count(2), 0);
        Due.is("touch(true)", x.touch(true), 0);
    }

    private static void likeEnds() {
        Due.sentence("terms: of like ones, as TOUCHING counts, LOWS ahead of HIGHS, else HIGHS ahead of LOWS");
        BoxFlickers x = Due.with("5:9,5:9,5:9;0:5,0:5,0:5");
        for (int axis = 0; axis < 3; axis++) {
            Due.are("ENDS of axis " + axis, Due.ends(x, axis), 2, 3, 0, 1);
        }
        x.touch(true);
        for (int axis = 0; axis < 3; axis++) {
            Due.are("ENDS of axis " + axis + ", touching", Due.ends(x, axis), 2, 0, 3, 1);
        }
        Due.bring(x, "9:10,-1:0,1:4");
        Due.are("ENDS of axis 0 behind a batch, touching", Due.ends(x, 0), 2, 0, 3, 4, 1, 5);
        Due.are("ENDS of axis 1 behind a batch, touching", Due.ends(x, 1), 4, 2, 5, 0, 3, 1);
        x.touch(false);
        Due.are("ENDS of axis 0, no more touching", Due.ends(x, 0), 2, 3, 0, 1, 4, 5);
        Due.are("ENDS of axis 1, no more touching", Due.ends(x, 1), 4, 5, 2, 3, 0, 1);
    }

    private static void likeEndsByNumbers() {
        Due.sentence("terms: of like ones then by numbers of BOXES");
        BoxFlickers x = Due.with(FOUR, FOUR, FOUR);
        long[] due = new long[24];
        for (int i = 0; i < 12; i++) {
            due[i] = 2 * i;
            due[12 + i] = 2 * i + 1;
        }
        Due.are("ENDS of twelve", Due.ends(x, 0), due);
        BoxFlickers y = Due.with(FOUR, FOUR, FOUR);
        y.remove(1 << 3 | 1 << 7);
        Due.bring(y, CUBE + ";" + CUBE);
        y.touch(true);
        Due.are("ENDS of twelve, two of them younger", Due.ends(y, 2), due);
    }

    // ---- how a change goes

    private static void changes() {
        whatIsAChange();
        axisByAxis();
        nothingAltered();
        highFirstOrLowFirst();
        asLongAsItDoesNotBelong();
        eachSwapOfBothKinds();
    }

    private static void whatIsAChange() {
        Due.sentence("terms: A CHANGE: BOXES that come or go, one that is moved or laid anew, TOUCHING that becomes another one.");
        BoxFlickers x = new BoxFlickers();
        Due.write(x, CUBE);
        x.fault();
        x.blank();
        Due.is("texts are none: count(7)", x.count(7), 0);
        Due.bring(x, CUBE + ";" + CUBE);
        Due.is("BOXES that come are one: count(7)", x.count(7), 1);
        x.remove(2);
        Due.is("a BOX that goes: count(7)", x.count(7), 2);
        x.move(0, 1, 1, 1);
        Due.is("one that is moved on three AXES: count(7)", x.count(7), 3);
        x.lay(0, 1, 5, 6);
        Due.is("one that is laid anew: count(7)", x.count(7), 4);
        x.touch(true);
        Due.is("TOUCHING: count(7)", x.count(7), 5);
        x.let(0, 0, 1);
        x.probe(0, 1, 0, 1, 0, 1);
        x.heap(2);
        x.digest();
        Due.is("what is told is none: count(7)", x.count(7), 5);
    }

    /** Box 1 gets past box 0 on axis 0 while they meet on the others; on axis 2 first it would not have met it. */
    private static void axisByAxis() {
        Due.sentence("terms: it goes AXIS by AXIS, 0 first");
        BoxFlickers x = Due.with("10:20,0:5,0:5;0:5,0:5,0:5");
        x.move(1, 30, 30, 30);
        Due.are("0 ahead of 1 and 2", Due.latest(x), 0, 0, 0, 2, 4, 1, 1);
        x.move(1, -30, -30, -30);
        Due.are("0 ahead of 1 and 2, back", Due.latest(x), 0, 0, 0, 0, 4, 1, 1);
        BoxFlickers y = Due.with("0:5,10:20,0:5;0:5,0:5,0:5");
        y.move(1, 0, 30, 30);
        Due.are("1 ahead of 2", Due.latest(y), 0, 0, 0, 2, 0, 4, 1);
        y.move(1, 0, -30, -30);
        Due.are("1 ahead of 2, back", Due.latest(y), 0, 0, 0, 0, 0, 4, 1);
    }

    private static void nothingAltered() {
        Due.sentence("terms: (where nothing is altered nothing is done)");
        BoxFlickers x = Due.with("0:9,0:9,0:9;0:9,0:9,0:9;9:10,0:9,0:9");
        long[] ends = Due.ends(x, 0);
        for (int box = 0; box < 3; box++) {
            Due.is("move(" + box + ", 0, 0, 0)", x.move(box, 0, 0, 0), 0);
            Due.is("lay(" + box + ", ..) as it is", x.lay(box, 0, x.box(box, 0), x.box(box, 1)), 0);
            Due.are("latest()", Due.latest(x), 0, 0, 0, 0, 0, 0, 0);
            Due.are("ENDS", Due.ends(x, 0), ends);
        }
        x.move(0, 1, 0, 0);
        Due.are("SWAPS on axis 0 alone", Due.latest(x), 1, 1, 0, 0, 3, 0, 0);
        x.move(0, 0, 1, 0);
        Due.are("SWAPS on axis 1 alone", Due.latest(x), 0, 0, 0, 0, 0, 4, 0);
        x.move(0, 0, 0, 1);
        Due.are("SWAPS on axis 2 alone", Due.latest(x), 0, 0, 0, 0, 0, 0, 4);
    }

    /** Done the other way round, an END would have to pass the other END of its own BOX, and back. */
    private static void highFirstOrLowFirst() {
        Due.sentence("terms: if its LOW becomes a greater one, its HIGH is put right first, then its LOW, else its LOW first");
        BoxFlickers x = Due.with("10:20,0:5,0:5;0:5,0:5,0:5");
        Due.is("up past", x.move(1, 30, 0, 0), 4);
        Due.are("latest() up past", Due.latest(x), 0, 0, 0, 2, 4, 0, 0);
        Due.is("down past", x.move(1, -30, 0, 0), 4);
        Due.are("latest() down past", Due.latest(x), 0, 0, 0, 2, 4, 0, 0);
        Due.is("laid up past", x.lay(1, 0, 21, 22), 4);
        Due.are("latest() laid up past", Due.latest(x), 0, 0, 0, 2, 4, 0, 0);
        Due.is("laid down past, farther than it is long", x.lay(1, 0, -50, 0), 4);
        Due.are("latest() laid down past", Due.latest(x), 0, 0, 0, 2, 4, 0, 0);
        Due.is("the LOW stays", x.lay(1, 0, -50, 11), 1);
        Due.is("the LOW becomes lesser, the HIGH greater", x.lay(1, 0, -51, 30), 1);
        Due.is("the LOW becomes greater, the HIGH lesser", x.lay(1, 0, 12, 13), 2);
        Due.are("ENDS", Due.ends(x, 0), 0, 2, 3, 1);
        BoxFlickers alone = Due.with("0:1,0:1,0:1");
        Due.is("alone up by 1", alone.move(0, 1, 1, 1), 0);
        Due.is("alone up by more", alone.move(0, 900, 900, 900), 0);
        Due.is("alone down to the border", alone.move(0, -1900, -1900, -1900), 0);
    }

    private static void asLongAsItDoesNotBelong() {
        Due.sentence("terms: as long as it is not where it belongs it is swapped with the END beside it on that side");
        BoxFlickers x = Due.with("0:10,0:1,0:1;0:9,0:1,0:1;0:10,0:1,0:1");
        Due.is("to like HIGHS: past the lesser number", x.lay(1, 0, 0, 10), 1);
        Due.are("ENDS", Due.ends(x, 0), 0, 2, 4, 1, 3, 5);
        Due.is("and back", x.lay(1, 0, 0, 9), 1);
        Due.is("the last stays last", x.lay(2, 0, 0, 999), 0);
        Due.is("the first stays first", x.lay(0, 0, -999, 10), 0);
        Due.is("up, ahead of a like HIGH", x.lay(1, 0, 998, 999), 3);
        Due.are("ENDS behind", Due.ends(x, 0), 0, 4, 1, 2, 3, 5);
        BoxFlickers like = Due.with(FOUR, FOUR, FOUR);
        Due.is("past both ENDS of eleven, up", like.move(0, 1, 1, 1), 99);
        Due.is("past both ENDS of ten, down", like.move(11, -1, -1, -1), 90);
        BoxFlickers past = Due.with(CUBE, CUBE + ";" + CUBE + ";" + CUBE, FOUR, FOUR);
        past.move(0, -1, -1, -1);
        Due.is("past eleven on all AXES", past.move(0, 2, 2, 2), 132);
        Due.are("latest() past eleven", Due.latest(past), 0, 0, 0, 0, 44, 44, 44);
    }

    private static void eachSwapOfBothKinds() {
        Due.sentence("terms: By each SWAP of a LOW and a HIGH of two BOXES these begin to MEET on that AXIS "
            + "(the LOW comes ahead of the HIGH), or end to.");
        BoxFlickers x = Due.with("0:5,0:5,0:5;5:9,5:9,5:9");
        int[][] ways = {{1, 0, 0}, {0, 1, 0}, {0, 0, 1}};
        for (int i = 0; i < 3; i++) {
            Due.is("by 1 on axis " + i, x.move(0, ways[i][0], ways[i][1], ways[i][2]), 1);
            Due.is("meet() then", x.meet(0, 1), i + 1);
            Due.is("latest(1) then", x.latest(1), i == 2 ? 1 : 0);
        }
        for (int i = 0; i < 3; i++) {
            Due.is("back by 1 on axis " + i, x.move(0, -ways[i][0], -ways[i][1], -ways[i][2]), 1);
            Due.is("meet() then", x.meet(0, 1), 2 - i);
            Due.is("latest(2) then", x.latest(2), i == 0 ? 1 : 0);
        }
        BoxFlickers like = Due.with("0:9,0:9,0:9;1:8,1:8,1:8");
        Due.is("SWAPS of one kind", like.lay(0, 0, 2, 7), 2);
        Due.is("meet() behind them", like.meet(0, 1), 3);
        Due.are("latest() behind them", Due.latest(like), 0, 0, 0, 0, 2, 0, 0);
    }

    // ---- what a change tells

    private static void eventsAndFlickers() {
        comeAndGo();
        orderOfEvents();
        flickersLessEvents();
        noFlickersWithoutSwaps();
    }

    private static void comeAndGo() {
        Due.sentence("terms: BOXES that come were none ahead of it, those that go are none behind it");
        BoxFlickers x = Due.with("0:9,0:9,0:9;1:2,1:2,1:2;3:4,3:4,3:4");
        Due.are("EVENTS of those that come", Due.events(x), 2 * 1 + 1, 2 * 2 + 1);
        x.remove(2);
        Due.are("EVENTS of one that goes", Due.events(x), 2 * 1);
        Due.bring(x, "1:2,1:2,1:2");
        Due.are("EVENTS of one that comes in its place", Due.events(x), 2 * 1 + 1);
        x.remove(1 | 2);
        Due.are("EVENTS of two that go: theirs once", Due.events(x), 2 * 1, 2 * 2);
        x.remove(4);
        Due.are("EVENTS of one alone that goes", Due.events(x));
        BoxFlickers y = Due.with(FOUR);
        Due.is("EVENTS of four", y.latest(1), 6);
        Due.bring(y, FOUR);
        Due.is("EVENTS of four more", y.latest(1), 22);
        Due.bring(y, FOUR);
        Due.is("EVENTS of the last four", y.latest(1), 38);
        y.remove(4095);
        Due.is("EVENTS as all go", y.latest(2), 66);
        Due.is("count(3)", y.count(3), 66);
        Due.is("count(4)", y.count(4), 66);
    }

    private static void orderOfEvents() {
        Due.sentence("terms: in order of the lesser number of both, then of the greater one");
        BoxFlickers x = Due.with("0:1,0:1,0:1;9:10,0:1,0:1;0:1,0:1,0:1;9:10,0:1,0:1", "9:10,0:1,0:1;0:1,0:1,0:1");
        x.remove(1 << 3);
        Due.bring(x, "0:1,0:1,0:1");
        Due.are("EVENTS of one that comes", Due.events(x), 2 * 3 + 1, 2 * 27 + 1, 2 * 41 + 1);
        x.move(3, 9, 0, 0);
        Due.are("EVENTS of both kinds", Due.events(x), 2 * 3, 2 * 15 + 1, 2 * 27, 2 * 40 + 1, 2 * 41);
        x.remove(1 << 3 | 1 << 0);
        Due.are("EVENTS of two that go", Due.events(x), 2 * 2, 2 * 5, 2 * 15, 2 * 40);
    }

    private static void flickersLessEvents() {
        Due.sentence("terms: how often on the way, behind a SWAP, a pair began to OVERLAP or ended to "
            + "(by how its BOXES MEET on all AXES then), less how many EVENTS there are");
        BoxFlickers x = Due.with("0:10,0:9,0:9;20:30,0:9,0:9;40:50,0:9,0:9;60:70,20:29,0:9", "-5:-1,0:9,0:9");
        x.move(4, 1, 0, 0);
        Due.are("to the border", Due.latest(x), 0, 0, 0, 0, 0, 0, 0);
        x.move(4, 1, 0, 0);
        Due.are("into the first", Due.latest(x), 1, 1, 0, 0, 1, 0, 0);
        x.move(4, 40, 0, 0);
        Due.are("out of it, past one, into the next", Due.latest(x), 2, 1, 1, 2, 8, 0, 0);
        x.move(4, 40, 0, 0);
        Due.are("past one that MEETS it on two AXES at most", Due.latest(x), 1, 0, 1, 0, 7, 0, 0);
        x.move(4, -90, 0, 0);
        Due.are("back past all", Due.latest(x), 0, 0, 0, 6, 16, 0, 0);
        Due.is("count(6)", x.count(6), 8);
        BoxFlickers aslant = Due.with("0:10,0:10,0:10;0:10,20:30,0:10");
        aslant.move(1, 0, -20, 20);
        Due.are("begun by axis 1, ended by axis 2", Due.latest(aslant), 0, 0, 0, 2, 0, 1, 1);
    }

    private static void noFlickersWithoutSwaps() {
        Due.sentence("terms: (When BOXES come or go, or TOUCHING becomes another one, there are no SWAPS, and no FLICKERS.)");
        BoxFlickers x = Due.with("10:20,0:5,0:5;0:5,0:5,0:5");
        x.move(1, 30, 0, 0);
        x.touch(true);
        Due.are("TOUCHING", Due.latest(x), 0, 0, 0, 0, 0, 0, 0);
        x.move(1, -30, 0, 0);
        Due.bring(x, "5:10,0:5,0:5;0:10,5:9,5:9");
        Due.are("BOXES that come", Due.latest(x), 5, 5, 0, 0, 0, 0, 0);
        x.move(1, 30, 0, 0);
        x.move(1, -30, 0, 0);
        x.touch(false);
        Due.are("TOUCHING no more", Due.latest(x), 5, 0, 5, 0, 0, 0, 0);
        x.move(1, 30, 0, 0);
        x.touch(true);
        x.remove(15);
        Due.are("BOXES that go", Due.latest(x), 3, 0, 3, 0, 0, 0, 0);
    }

    // ---- let, groups, the deepest heap, the probe

    private static void letsAndHeaps() {
        letOneAtLeast();
        letWithinTheBorders();
        groups();
        deepest();
        probe();
    }

    private static void lets(String state, BoxFlickers x, int box, int axis, int down, int up) {
        Due.is("let(" + box + ", " + axis + ", -1) " + state, x.let(box, axis, -1), down);
        Due.is("let(" + box + ", " + axis + ", 1) " + state, x.let(box, axis, 1), up);
    }

    private static void letOneAtLeast() {
        Due.sentence("terms: the least distance (1 at least) so that, moved by it alone that way, some EVENT would be");
        for (int axis = 0; axis < 3; axis++) {
            BoxFlickers x = Due.with("0:5,0:5,0:5;0:5,0:5,0:5");
            x.lay(1, axis, 5, 9);
            lets("side by side", x, 0, axis, NONE, 1);
            lets("side by side, the other one", x, 1, axis, 1, NONE);
            x.lay(1, axis, 4, 9);
            lets("one over the other by 1", x, 0, axis, 1, 9);
            x.lay(1, axis, 6, 9);
            lets("1 between", x, 0, axis, NONE, 2);
            x.touch(true);
            lets("1 between, touching", x, 0, axis, NONE, 1);
            x.lay(1, axis, 5, 9);
            lets("side by side, touching", x, 0, axis, 1, 10);
            x.lay(1, axis, 7, 9);
            lets("2 between, touching", x, 0, axis, NONE, 2);
        }
        BoxFlickers y = Due.with("0:5,0:5,0:5;9:12,0:5,0:5;7:8,0:5,0:5;-3:2,0:5,0:5", "6:8,5:9,0:5");
        lets("the least of several", y, 0, 0, 8, 2);
        lets("on an AXIS where one is beside it", y, 4, 1, 1, NONE);
    }

    private static void letWithinTheBorders() {
        Due.sentence("terms: none, if there is no such distance by which it stays between -999 and 999");
        BoxFlickers x = Due.with("980:990,0:1,0:1;985:989,0:1,0:1", "-990:-980,0:1,0:1;-989:-985,0:1,0:1");
        lets("out of it at the upper border", x, 0, 0, 5, 9);
        lets("out of it at the lower border", x, 2, 0, 9, 5);
        x.lay(1, 0, 985, 990);
        x.lay(3, 0, -990, -985);
        lets("1 beyond the upper border", x, 0, 0, 5, NONE);
        lets("1 beyond the lower border", x, 2, 0, NONE, 5);
        x.touch(true);
        x.lay(1, 0, 985, 988);
        x.lay(3, 0, -988, -985);
        lets("at the upper border, touching", x, 0, 0, 6, 9);
        lets("at the lower border, touching", x, 2, 0, 9, 6);
        x.lay(1, 0, 985, 989);
        x.lay(3, 0, -989, -985);
        lets("1 beyond the upper border, touching", x, 0, 0, 6, NONE);
        lets("1 beyond the lower border, touching", x, 2, 0, NONE, 6);
        BoxFlickers y = Due.with("-999:-998,0:1,0:1;998:999,0:1,0:1;-999:999,5:6,0:1");
        lets("from one border to the other", y, 0, 0, NONE, 1997);
        lets("from the other to the one", y, 1, 0, 1997, NONE);
        lets("no way to go", y, 2, 0, NONE, NONE);
        lets("alone on this AXIS", y, 0, 2, NONE, NONE);
    }

    private static void groups() {
        Due.sentence("terms: GROUPS: BOXES that hang together by pairs that OVERLAP, one over the other.");
        Due.are("none", Due.heaps(new BoxFlickers()), 0, 0, 0, 0);
        Due.are("one alone", Due.heaps(Due.with(CUBE)), 1, 1, 1, 1);
        BoxFlickers x = twelveApart();
        Due.are("twelve apart", Due.heaps(x), 12, 1, 1, 1);
        x.touch(true);
        Due.are("twelve in a row", Due.heaps(x), 1, 12, 3, 2);
        Due.is("box(11, 8)", x.box(11, 8), 0);
        x.remove(1 << 4);
        Due.are("a row with a gap", Due.heaps(x), 2, 7, 3, 2);
        Due.is("box(11, 8) behind the gap", x.box(11, 8), 5);
        Due.is("box(3, 8) ahead of the gap", x.box(3, 8), 0);
        int[] places = {11, 0, 10, 1, 9, 2, 8, 3, 7, 4, 6, 5};
        BoxFlickers y = new BoxFlickers();
        for (int place : places) {
            Due.bring(y, place + ":" + (place + 1) + ",0:1,0:1");
        }
        y.touch(true);
        Due.are("twelve in a row, their numbers mixed", Due.heaps(y), 1, 12, 5, 2);
        for (int box = 0; box < 12; box++) {
            Due.is("box(" + box + ", 8)", y.box(box, 8), 0);
        }
    }

    private static void deepest() {
        Due.sentence("terms: DEEPEST: the most BOXES of which all two OVERLAP: "
            + "of several sets of so many that of the least sum of 2 to the power of their numbers.");
        Due.are("a row is no heap", Due.heaps(Due.with("0:3,0:1,0:1;2:6,0:1,0:1;5:9,0:1,0:1")), 1, 3, 3, 2);
        Due.are("6 is less than 9", Due.heaps(Due.with("0:1,0:1,0:1;5:6,0:1,0:1;5:6,0:1,0:1;0:1,0:1,0:1")), 2, 2, 6, 2);
        Due.are("more BOXES ahead of the lesser sum",
            Due.heaps(Due.with("0:1,0:1,0:1;5:6,0:1,0:1;5:6,0:1,0:1;5:6,0:1,0:1", "0:1,0:1,0:1")), 2, 3, 14, 3);
        BoxFlickers x = twelveApart();
        x.move(11, -11, 0, 0);
        Due.are("0 and 11", Due.heaps(x), 11, 2, 1 | 1 << 11, 2);
        x.move(10, -1, 0, 0);
        Due.are("9 and 10", Due.heaps(x), 10, 2, 1 << 9 | 1 << 10, 2);
        Due.are("all twelve", Due.heaps(Due.with(FOUR, FOUR, FOUR)), 1, 12, 4095, 12);
        BoxFlickers six = Due.with("0:1,0:1,0:1;5:6,0:1,0:1;0:1,0:1,0:1;5:6,0:1,0:1",
            "0:1,0:1,0:1;5:6,0:1,0:1;0:1,0:1,0:1;5:6,0:1,0:1", "0:1,0:1,0:1;5:6,0:1,0:1;0:1,0:1,0:1;5:6,0:1,0:1");
        Due.are("two heaps of six", Due.heaps(six), 2, 6, 1365, 6);
    }

    private static void probe() {
        Due.sentence("terms: PROBE: a BOX that is not there: which BOXES it would OVERLAP.");
        BoxFlickers x = twelveApart();
        long before = x.digest();
        Due.is("all", x.probe(-999, 999, -999, 999, -999, 999), 4095);
        Due.is("the first", x.probe(-999, 1, 0, 1, 0, 1), 1);
        Due.is("the last", x.probe(11, 999, 0, 1, 0, 1), 1 << 11);
        Due.is("ahead of all", x.probe(-999, 0, 0, 1, 0, 1), 0);
        Due.is("behind all", x.probe(12, 999, 0, 1, 0, 1), 0);
        Due.is("beside on axis 1", x.probe(0, 12, 1, 2, 0, 1), 0);
        Due.is("beside on axis 2", x.probe(0, 12, 0, 1, -1, 0), 0);
        Due.is("nothing changes: digest()", x.digest(), before);
        x.touch(true);
        Due.is("ahead of all, touching", x.probe(-999, 0, 1, 2, -1, 0), 1);
        Due.is("behind all, touching", x.probe(12, 999, 0, 1, 0, 1), 1 << 11);
        Due.is("between, touching", x.probe(5, 6, 0, 1, 0, 1), 7 << 4);
        Due.is("none there", new BoxFlickers().probe(-999, 999, -999, 999, -999, 999), 0);
    }

    // ---- refusals

    private static void refusals() {
        theFirstAsTold();
        theyChangeNothing();
    }

    private static void theFirstAsTold() {
        Due.sentence("terms: Refusals, of several the first as told by each call");
        BoxFlickers x = Due.with(FOUR, FOUR, FOUR);
        Due.write(x, CUBE + ";");
        Due.is("boxes(): STATE, FULL", x.boxes(), STATE);
        while (x.count(0) < 60) {
            x.letter(';');
        }
        Due.is("letter(): OUTSIDE, FULL", x.letter(31), OUTSIDE);
        Due.is("letter(): FULL", x.letter(32), FULL);
        Due.is("move(): UNKNOWN, OUTSIDE", x.move(12, 1000, 0, 0), UNKNOWN);
        Due.is("lay(): UNKNOWN box, OUTSIDE", x.lay(-1, 0, 1, 0), UNKNOWN);
        Due.is("lay(): UNKNOWN axis, OUTSIDE", x.lay(0, 3, 1, 0), UNKNOWN);
        Due.is("box(): UNKNOWN, OUTSIDE", x.box(12, 9), UNKNOWN);
        Due.is("end(): UNKNOWN axis, OUTSIDE", x.end(3, 0, 3), UNKNOWN);
        Due.is("end(): UNKNOWN place, OUTSIDE", x.end(0, 24, 3), UNKNOWN);
        Due.is("event(): UNKNOWN, OUTSIDE", x.event(38, 2), UNKNOWN);
        Due.is("let(): UNKNOWN box, OUTSIDE", x.let(12, 0, 0), UNKNOWN);
        Due.is("let(): UNKNOWN axis, OUTSIDE", x.let(0, 3, 0), UNKNOWN);
    }

    private static void theyChangeNothing() {
        Due.sentence("terms: they change nothing");
        BoxFlickers x = Due.with("0:10,0:10,0:10;20:30,0:10,0:10;5:8,5:8,5:8;40:50,0:10,0:10", FOUR, FOUR);
        x.move(2, 30, 0, 0);
        Due.are("latest() ahead", Due.latest(x), 1, 0, 1, 2, 6, 0, 0);
        Due.write(x, CUBE);
        Due.refuses(x, "boxes() FULL", x::boxes, FULL);
        x.letter('x');
        Due.refuses(x, "boxes() STATE", x::boxes, STATE);
        while (x.count(0) < 60) {
            x.letter('-');
        }
        Due.refuses(x, "letter() FULL", () -> x.letter('-'), FULL);
        Due.refuses(x, "letter() OUTSIDE", () -> x.letter(127), OUTSIDE);
        Due.refuses(x, "remove() of none", () -> x.remove(0), OUTSIDE);
        Due.refuses(x, "remove() of others", () -> x.remove(8191), OUTSIDE);
        Due.refuses(x, "move() UNKNOWN", () -> x.move(12, 1, 0, 0), UNKNOWN);
        Due.refuses(x, "move() OUTSIDE on axis 2", () -> x.move(0, 1, 1, 990), OUTSIDE);
        Due.refuses(x, "lay() UNKNOWN", () -> x.lay(0, 3, 0, 1), UNKNOWN);
        Due.refuses(x, "lay() OUTSIDE", () -> x.lay(0, 0, 5, 1000), OUTSIDE);
        Due.refuses(x, "box() UNKNOWN", () -> x.box(12, 0), UNKNOWN);
        Due.refuses(x, "box() OUTSIDE", () -> x.box(0, 9), OUTSIDE);
        Due.refuses(x, "end() UNKNOWN", () -> x.end(0, 24, 0), UNKNOWN);
        Due.refuses(x, "end() OUTSIDE", () -> x.end(0, 0, 3), OUTSIDE);
        Due.refuses(x, "meet() UNKNOWN", () -> x.meet(0, 0), UNKNOWN);
        Due.refuses(x, "pair() UNKNOWN", () -> x.pair(66), UNKNOWN);
        Due.refuses(x, "event() UNKNOWN", () -> x.event(1, 0), UNKNOWN);
        Due.refuses(x, "event() OUTSIDE", () -> x.event(0, 2), OUTSIDE);
        Due.refuses(x, "latest() OUTSIDE", () -> x.latest(7), OUTSIDE);
        Due.refuses(x, "let() UNKNOWN", () -> x.let(12, 0, 1), UNKNOWN);
        Due.refuses(x, "let() OUTSIDE", () -> x.let(0, 0, 0), OUTSIDE);
        Due.refuses(x, "heap() OUTSIDE", () -> x.heap(4), OUTSIDE);
        Due.refuses(x, "probe() OUTSIDE", () -> x.probe(0, 1, 0, 1, 1, 1), OUTSIDE);
        Due.refuses(x, "count() OUTSIDE", () -> x.count(10), OUTSIDE);
        Due.are("latest() behind", Due.latest(x), 1, 0, 1, 2, 6, 0, 0);
    }
}
