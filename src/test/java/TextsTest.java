/** Promises 1 to 5: a new object, letter, blank, fault, boxes. */
public final class TextsTest {
    private static final String CUBE = "0:1,0:1,0:1";
    private static final String FOUR = CUBE + ";" + CUBE + ";" + CUBE + ";" + CUBE;

    public static void main(String[] args) {
        newObject();
        letter();
        blank();
        faultInNumbers();
        faultInMarks();
        faultAgain();
        boxes();
        boxesRefused();
        boxesTakeLeastNumbers();
        Due.close("TextsTest");
    }

    private static void newObject() {
        BoxFlickers x = new BoxFlickers();
        Due.are("count() of a new object", Due.counts(x), 0, 0, 0, 0, 0, 0, 0, 0, 0, 0);
        Due.are("latest() of a new object", Due.latest(x), 0, 0, 0, 0, 0, 0, 0);
        Due.are("heap() of a new object", Due.heaps(x), 0, 0, 0, 0);
        Due.is("box(0, 0) of a new object", x.box(0, 0), BoxFlickers.UNKNOWN);
        Due.is("end(0, 0, 0) of a new object", x.end(0, 0, 0), BoxFlickers.UNKNOWN);
        Due.is("event(0, 0) of a new object", x.event(0, 0), BoxFlickers.UNKNOWN);
        Due.is("pair(0) of a new object", x.pair(0), BoxFlickers.UNKNOWN);
    }

    private static void letter() {
        BoxFlickers x = new BoxFlickers();
        Due.is("letter(31)", x.letter(31), BoxFlickers.OUTSIDE);
        Due.is("letter(127)", x.letter(127), BoxFlickers.OUTSIDE);
        Due.is("letter(-1)", x.letter(-1), BoxFlickers.OUTSIDE);
        Due.is("letter(greatest)", x.letter(Integer.MAX_VALUE), BoxFlickers.OUTSIDE);
        Due.is("letter(32)", x.letter(32), 1);
        Due.is("letter(126)", x.letter(126), 2);
        for (int i = 3; i <= 60; i++) {
            Due.is("letter " + i, x.letter('0'), i);
        }
        Due.is("letter 61", x.letter('0'), BoxFlickers.FULL);
        Due.is("letter 61, OUTSIDE first", x.letter(31), BoxFlickers.OUTSIDE);
        Due.is("count(0) of a full page", x.count(0), 60);
    }

    private static void blank() {
        BoxFlickers x = new BoxFlickers();
        Due.is("blank() of none", x.blank(), 0);
        Due.write(x, "7:8");
        Due.is("blank() of three", x.blank(), 3);
        Due.is("blank() again", x.blank(), 0);
        Due.is("count(0) behind blank()", x.count(0), 0);
        Due.is("letter() behind blank()", x.letter('1'), 1);
        Due.is("count(7): a page is no change", x.count(7), 0);
    }

    private static void fault(String text, int want) {
        BoxFlickers x = new BoxFlickers();
        Due.write(x, text);
        Due.is("fault() of " + text, x.fault(), want);
        Due.is("count(0) behind fault()", x.count(0), text.length());
    }

    private static void faultInNumbers() {
        fault("", 0);
        fault("-", 1);
        fault("--", 1);
        fault("-0", 1);
        fault("-9", 2);
        fault("00", 1);
        fault("01", 1);
        fault("10", 2);
        fault("999", 3);
        fault("1000", 3);
        fault("9999", 3);
        fault("-999", 4);
        fault("-1000", 4);
        fault("1-", 1);
        fault("0-", 1);
        fault("+1", 0);
        fault(" 1", 0);
        fault("1 ", 1);
        fault("x", 0);
        fault("/", 0);
        fault("1/", 1);
        fault("<", 0);
        fault("5:5", 3);
        fault("5:-5,0:0,1:0", 12);
        fault("5:-05", 3);
        fault("0:1,0:1,0:1000", 13);
    }

    private static void faultInMarks() {
        fault(":", 0);
        fault("1,", 1);
        fault("1;", 1);
        fault("-:", 1);
        fault("1::", 2);
        fault("1:2:", 3);
        fault("1:2;", 3);
        fault("1:2,3:4;", 7);
        fault("1:2,3:4:", 7);
        fault("1:2,3:4,,", 8);
        fault("1:2,3:4,5:6,", 11);
        fault("1:2,3:4,5:6:", 11);
        fault("1:2,3:4,5:6;", 12);
        fault("1:2,3:4,5:6;;", 12);
        fault("1:2,3:4,5:6;7:8;", 15);
        fault(FOUR, FOUR.length());
        fault(FOUR + ";", FOUR.length());
        fault(FOUR + "5", FOUR.length() + 1);
        fault(FOUR + "5,", FOUR.length() + 1);
    }

    /** Each reading begins anew, whatever the one ahead of it left. */
    private static void faultAgain() {
        BoxFlickers x = new BoxFlickers();
        String text = "-10:999,0:1,0:-1;50:6,";
        for (int i = 0; i < text.length(); i++) {
            x.letter(text.charAt(i));
            Due.is("fault() behind letter " + i, x.fault(), i + 1);
            Due.is("fault() once more", x.fault(), i + 1);
        }
        Due.is("boxes()", x.boxes(), BoxFlickers.STATE);
        x.blank();
        Due.is("fault() of an empty page", x.fault(), 0);
        Due.write(x, CUBE);
        Due.is("boxes() behind other readings", x.boxes(), 1);
        Due.are("box 0", Due.box(x, 0), 0, 1, 0, 1, 0, 1, 0, 0, 0);
    }

    private static void boxes() {
        BoxFlickers x = new BoxFlickers();
        Due.write(x, "-999:999,-1:0,3:10");
        Due.is("boxes() of one", x.boxes(), 1);
        Due.are("box 0", Due.box(x, 0), -999, 999, -1, 0, 3, 10, 0, 0, 0);
        Due.is("count(0) behind boxes()", x.count(0), 0);
        Due.is("count(7) behind boxes()", x.count(7), 1);
        Due.bring(x, "0:5,-2:1,4:5;20:30,0:1,0:1;5:6,-1:2,9:99");
        Due.are("EVENTS of those that come", Due.events(x), 2 * 1 + 1, 2 * 3 + 1);
        Due.are("latest() of those that come", Due.latest(x), 2, 2, 0, 0, 0, 0, 0);
        Due.is("count(1)", x.count(1), 4);
        Due.are("ENDS of axis 0", Due.ends(x, 0), 0, 2, 3, 6, 7, 4, 5, 1);
    }

    private static void refused(String text) {
        BoxFlickers x = Due.with(CUBE);
        x.touch(true);
        long[] counts = Due.counts(x);
        counts[0] = text.length();
        Due.write(x, text);
        Due.is("boxes() of '" + text + "'", x.boxes(), BoxFlickers.STATE);
        Due.are("count() behind '" + text + "'", Due.counts(x), counts);
    }

    private static void boxesRefused() {
        refused("");
        refused("1");
        refused("-");
        refused("0:1,0:1,0:");
        refused("0:1,0:1,0:-");
        refused("0:1,0:1,0");
        refused("0:1,0:1");
        refused("0:1,0:1,");
        refused("0:1,0:1,0:1;");
        refused("0:1,0:1,0:1;0:1,0:1");
        refused("0:1,0:1,0:1,");
        refused("0:1,0:1,0:1x");
        refused("x" + CUBE);
        refused("1:1,0:1,0:1");
        refused("0:1,1:0,0:1");
        refused("0:1,0:1,-1:-2");
        refused("0:1,0:1,0:1;0:1,0:1,5:5");
        refused("0:1000,0:1,0:1");
        refused(FOUR + ";");
        refused(FOUR + ";" + CUBE);
    }

    private static void boxesTakeLeastNumbers() {
        BoxFlickers x = Due.with(FOUR, FOUR, "0:1,0:1,0:1;2:3,2:3,2:3");
        Due.write(x, "4:5,0:1,0:1;6:7,0:1,0:1;8:9,0:1,0:1");
        Due.is("boxes() that would be 13", x.boxes(), BoxFlickers.FULL);
        Due.is("count(0): the page stays", x.count(0), 35);
        Due.is("count(1): nobody comes", x.count(1), 10);
        Due.is("count(7): no change", x.count(7), 3);
        x.letter(';');
        Due.is("boxes(), STATE ahead of FULL", x.boxes(), BoxFlickers.STATE);
        x.blank();
        Due.is("remove(1, 4, 8)", x.remove(1 << 1 | 1 << 4 | 1 << 8), 3);
        Due.bring(x, "4:5,0:1,0:1;6:7,0:1,0:1;8:9,0:1,0:1;10:11,0:1,0:1");
        Due.is("the first has number 1", x.box(1, 0), 4);
        Due.is("the second has number 4", x.box(4, 0), 6);
        Due.is("the third has number 8", x.box(8, 0), 8);
        Due.is("the fourth has number 10", x.box(10, 0), 10);
        Due.is("count(9)", x.count(9), (1 << 11) - 1);
        Due.bring(x, CUBE);
        Due.is("count(9) of twelve", x.count(9), (1 << 12) - 1);
        Due.write(x, CUBE);
        Due.is("boxes() beyond twelve", x.boxes(), BoxFlickers.FULL);
    }
}
