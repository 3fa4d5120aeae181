/** The borders that promises 1 to 5 name: each sentence, by its own words, has a method here. */
public final class BordersOfTextsTest {
    private static final int OUTSIDE = BoxFlickers.OUTSIDE;
    private static final int STATE = BoxFlickers.STATE;
    private static final int FULL = BoxFlickers.FULL;
    private static final String CUBE = "0:1,0:1,0:1";
    private static final String THREE = CUBE + ";" + CUBE + ";" + CUBE;
    private static final String FOUR = THREE + ";" + CUBE;
    private static final String FIGURES = "0123456789";
    private static final String LONGEST = "-999:-998,-999:-998,-999:-998";
    /** Sixty letters that are a batch, and sixty that are the beginning of one. */
    private static final String SIXTY = LONGEST + ";0:10,0:10,0:10;0:10,0:10,0:100";
    private static final String OPEN_SIXTY = LONGEST + ";" + LONGEST + ";";

    public static void main(String[] args) {
        newObject();
        letters();
        blank();
        faults();
        boxes();
        Due.close("BordersOfTextsTest");
    }

    // ---- promise 1

    private static void newObject() {
        Due.sentence("promise 1: No BOXES.");
        BoxFlickers x = new BoxFlickers();
        Due.are("count()", Due.counts(x), 0, 0, 0, 0, 0, 0, 0, 0, 0, 0);
        Due.are("latest()", Due.latest(x), 0, 0, 0, 0, 0, 0, 0);
        Due.are("heap()", Due.heaps(x), 0, 0, 0, 0);
        for (int box = -1; box <= 12; box++) {
            Due.is("box(" + box + ", 0)", x.box(box, 0), BoxFlickers.UNKNOWN);
            Due.is("move(" + box + ", ..)", x.move(box, 0, 0, 0), BoxFlickers.UNKNOWN);
            Due.is("lay(" + box + ", ..)", x.lay(box, 0, 0, 1), BoxFlickers.UNKNOWN);
            Due.is("let(" + box + ", ..)", x.let(box, 0, 1), BoxFlickers.UNKNOWN);
            Due.is("meet(" + box + ", 0)", x.meet(box, 0), BoxFlickers.UNKNOWN);
        }
        for (int axis = 0; axis < 3; axis++) {
            Due.is("end(" + axis + ", 0, 0)", x.end(axis, 0, 0), BoxFlickers.UNKNOWN);
        }
        Due.is("pair(0)", x.pair(0), BoxFlickers.UNKNOWN);
        Due.is("event(0, 0)", x.event(0, 0), BoxFlickers.UNKNOWN);
        Due.is("remove(1)", x.remove(1), OUTSIDE);
        Due.is("remove(4095)", x.remove(4095), OUTSIDE);
        Due.is("fault()", x.fault(), 0);
        Due.is("count(7): all of these were refused, or told something", x.count(7), 0);
    }

    // ---- promise 2

    private static void letters() {
        howManyThePageHas();
        codes();
        aboveSixty();
    }

    private static void howManyThePageHas() {
        Due.sentence("promise 2: A letter comes behind THE PAGE, told by its code: how many THE PAGE has.");
        BoxFlickers x = new BoxFlickers();
        for (int i = 1; i <= 60; i++) {
            Due.is("letter " + i, x.letter(i % 2 == 0 ? 32 : 126), i);
            Due.is("count(0)", x.count(0), i);
        }
        BoxFlickers y = Due.page("0:1,0:1,0:2");
        y.letter('3');
        y.boxes();
        Due.is("the letter stands behind the others", y.box(0, 5), 23);
    }

    private static void codes() {
        Due.sentence("promise 2: OUTSIDE: code (32 to 126)");
        for (int code = -300; code <= 400; code++) {
            BoxFlickers x = new BoxFlickers();
            int want = code >= 32 && code <= 126 ? 1 : OUTSIDE;
            Due.is("letter(" + code + ")", x.letter(code), want);
            Due.is("count(0) behind letter(" + code + ")", x.count(0), want == 1 ? 1 : 0);
        }
        BoxFlickers x = Due.page("0:1");
        int[] far = {Integer.MIN_VALUE, Integer.MIN_VALUE + '1', Integer.MAX_VALUE, 256 + '1', 65536 + '1', -'1'};
        for (int code : far) {
            Due.refuses(x, "letter(" + code + ")", () -> x.letter(code), OUTSIDE);
        }
    }

    private static void aboveSixty() {
        Due.sentence("promise 2: FULL: above 60.");
        BoxFlickers x = Due.page(SIXTY.substring(0, 59));
        Due.is("letter 60", x.letter('0'), 60);
        Due.refuses(x, "letter 61", () -> x.letter('0'), FULL);
        Due.refuses(x, "letter 61 once more", () -> x.letter(' '), FULL);
        Due.is("fault() of the full page", x.fault(), 60);
        Due.is("boxes() of the full page", x.boxes(), 3);
        Due.is("box(2, 5), the last number of it", x.box(2, 5), 100);
        Due.is("letter 1", x.letter('1'), 1);
    }

    // ---- promise 3

    private static void blank() {
        Due.sentence("promise 3: THE PAGE is empty: how many letters it had.");
        BoxFlickers x = new BoxFlickers();
        Due.is("of none", x.blank(), 0);
        Due.is("of none again", x.blank(), 0);
        x.letter('1');
        Due.is("of one", x.blank(), 1);
        Due.is("count(0)", x.count(0), 0);
        Due.is("fault()", x.fault(), 0);
        Due.is("boxes()", x.boxes(), STATE);
        for (int i = 0; i < 61; i++) {
            x.letter('0');
        }
        Due.is("of a full one", x.blank(), 60);
        Due.is("of what was full", x.blank(), 0);
        Due.bring(x, CUBE);
        Due.is("behind boxes()", x.blank(), 0);
        Due.is("a BOX stays", x.count(9), 1);
    }

    // ---- promise 4

    private static void faults() {
        firstLetterThatNoBatchHas();
        theFirstOfSeveral();
        noFault();
        tooGreat();
        lowBelowHighDoesNotMatter();
    }

    /** Behind these letters a batch goes on with one of those, and with no other letter at all. */
    private static void goesOn(String ahead, String with) {
        for (int code = 32; code <= 126; code++) {
            BoxFlickers x = Due.page(ahead);
            x.letter(code);
            int want = with.indexOf(code) >= 0 ? ahead.length() + 1 : ahead.length();
            Due.is("fault() of " + ahead + (char) code, x.fault(), want);
        }
    }

    private static void firstLetterThatNoBatchHas() {
        Due.sentence("promise 4: The place (from 0) of the first letter of THE PAGE that no batch has there, behind those ahead of it");
        String[] begun = {"", "5:", "5:6,", "5:6,7:", "5:6,7:8,", "5:6,7:8,9:", "5:6,7:8,9:1;", CUBE + ";" + CUBE + ";", THREE + ";"};
        for (String ahead : begun) {
            goesOn(ahead, "-" + FIGURES);
            goesOn(ahead + "-", "123456789");
        }
        String[] lows = {"", "5:6,", "5:6,7:8,", "5:6,7:8,9:1;", THREE + ";0:1,"};
        for (String ahead : lows) {
            theNumbersEnd(ahead, ":");
        }
        String[] highs = {"5:", "5:6,7:", "5:6,7:8,9:1;2:", THREE + ";0:1,0:"};
        for (String ahead : highs) {
            theNumbersEnd(ahead, ",");
        }
        String[] lasts = {"5:6,7:8,9:", CUBE + ";0:1,0:1,0:", CUBE + ";" + CUBE + ";0:1,0:1,0:"};
        for (String ahead : lasts) {
            theNumbersEnd(ahead, ";");
        }
        theNumbersEnd(THREE + ";0:1,0:1,0:", "");
    }

    private static void theNumbersEnd(String ahead, String mark) {
        goesOn(ahead + "0", mark);
        goesOn(ahead + "7", FIGURES + mark);
        goesOn(ahead + "-7", FIGURES + mark);
        goesOn(ahead + "99", FIGURES + mark);
        goesOn(ahead + "999", mark);
        goesOn(ahead + "-100", mark);
    }

    private static void theFirstOfSeveral() {
        Due.sentence("promise 4: the first letter of THE PAGE");
        Due.is("fault() of xx", Due.page("xx").fault(), 0);
        Due.is("fault() of 0:1x0:1", Due.page("0:1x0:1").fault(), 3);
        Due.is("fault() of 01:02", Due.page("01:02").fault(), 1);
        Due.is("fault() of a right batch behind a wrong letter", Due.page(" " + CUBE).fault(), 0);
        Due.is("fault() of a fifth BOX", Due.page(FOUR + ";" + CUBE).fault(), 47);
        BoxFlickers x = Due.page("5;");
        Due.is("fault()", x.fault(), 1);
        Due.write(x, "6:7");
        Due.is("fault() with more letters behind it", x.fault(), 1);
    }

    private static void noFault() {
        Due.sentence("promise 4: how many letters it has, if there is none");
        Due.is("fault() of none", Due.page("").fault(), 0);
        Due.is("fault() of one", Due.page("-").fault(), 1);
        Due.is("fault() of a BOX", Due.page(CUBE).fault(), 11);
        Due.is("fault() of half a BOX", Due.page("0:1,0:").fault(), 6);
        Due.is("fault() of four", Due.page(FOUR).fault(), 47);
        Due.is("fault() of sixty", Due.page(SIXTY).fault(), 60);
        Due.is("fault() of sixty that are not at an end", Due.page(OPEN_SIXTY).fault(), 60);
        BoxFlickers x = Due.page(OPEN_SIXTY.substring(0, 59));
        Due.is("fault() of 59", x.fault(), 59);
        x.letter('x');
        Due.is("fault() of 60, the last one wrong", x.fault(), 59);
        long before = x.digest();
        x.fault();
        Due.is("it only tells: digest()", x.digest(), before);
    }

    private static void tooGreat() {
        Due.sentence("promise 4: A number that is too great, or too far below 0, is wrong at the figure by which it becomes that");
        for (String ahead : new String[] {"", "0:", "0:1,0:1,0:", THREE + ";", THREE + ";0:"}) {
            for (int number : new int[] {999, 100, 10, 1, 0, -1, -10, -999}) {
                String text = ahead + number;
                Due.is("fault() of " + text, Due.page(text).fault(), text.length());
            }
            for (int number : new int[] {1000, 1001, 9990, 9999, 10000, 99999}) {
                Due.is("fault() of " + ahead + number, Due.page(ahead + number).fault(), ahead.length() + 3);
                Due.is("fault() of " + ahead + -number, Due.page(ahead + -number).fault(), ahead.length() + 4);
            }
        }
        Due.is("fault() of 4294967296, which wraps around", Due.page("4294967296:1").fault(), 3);
        Due.is("fault() of 18446744073709551617", Due.page("18446744073709551617").fault(), 3);
        for (int number = -1100; number <= 1100; number++) {
            String text = "" + number;
            boolean right = number >= -999 && number <= 999;
            Due.is("fault() of " + text, Due.page(text).fault(), right ? text.length() : text.length() - 1);
        }
    }

    private static void lowBelowHighDoesNotMatter() {
        Due.sentence("promise 4: whether LOW is below HIGH does not matter here");
        Due.is("fault() of 5:5", Due.page("5:5").fault(), 3);
        Due.is("fault() of 999:-999", Due.page("999:-999").fault(), 8);
        Due.is("fault() of a BOX of no length", Due.page("0:0,0:0,0:0").fault(), 11);
        Due.is("fault() of a BOX the wrong way round", Due.page("1:0,1:0,1:-1;").fault(), 13);
        Due.is("boxes() of it", Due.page("0:0,0:0,0:0").boxes(), STATE);
    }

    // ---- promise 5

    private static void boxes() {
        everyNumberComes();
        howManyCome();
        thePageIsEmptyThen();
        itIsNone();
        moreThanTwelve();
    }

    private static void everyNumberComes() {
        Due.sentence("promise 5: THE PAGE is read as a batch that comes");
        for (int low = -999; low < 999; low++) {
            BoxFlickers x = Due.with(low + ":" + (low + 1) + ",0:1,0:1");
            Due.is("LOW " + low, x.box(0, 0), low);
            Due.is("HIGH " + (low + 1), x.box(0, 1), low + 1);
        }
        BoxFlickers y = Due.with("1:2,3:4,5:6;2:3,4:5,6:7;3:4,5:6,7:8;4:5,6:7,8:9");
        for (int box = 0; box < 4; box++) {
            Due.are("box " + box, Due.box(y, box), box + 1, box + 2, box + 3, box + 4, box + 5, box + 6, 0, 0, box);
        }
    }

    private static void howManyCome() {
        Due.sentence("promise 5: how many BOXES come");
        BoxFlickers x = Due.with(CUBE);
        Due.write(x, CUBE);
        Due.is("one", x.boxes(), 1);
        Due.write(x, FOUR);
        Due.is("four", x.boxes(), 4);
        Due.write(x, CUBE + ";" + CUBE);
        Due.is("two", x.boxes(), 2);
        Due.write(x, THREE);
        Due.is("three", x.boxes(), 3);
        Due.is("count(1)", x.count(1), 11);
    }

    private static void thePageIsEmptyThen() {
        Due.sentence("promise 5: THE PAGE is empty then");
        BoxFlickers x = Due.page(CUBE);
        x.boxes();
        Due.is("count(0)", x.count(0), 0);
        Due.is("fault()", x.fault(), 0);
        Due.refuses(x, "boxes() once more", x::boxes, STATE);
        Due.is("letter()", x.letter('0'), 1);
        Due.write(x, ":1,0:1,0:1");
        Due.is("boxes() of a new one", x.boxes(), 1);
    }

    private static void none(String text) {
        BoxFlickers x = Due.with(CUBE);
        Due.write(x, text);
        Due.refuses(x, "boxes() of '" + text + "'", x::boxes, STATE);
        Due.is("count(0): the letters stay", x.count(0), text.length());
        Due.is("count(7): no CHANGE", x.count(7), 1);
    }

    private static void itIsNone() {
        Due.sentence("promise 5: STATE: it is none (LOW not below HIGH, too)");
        for (int end = 0; end < CUBE.length(); end++) {
            none(CUBE.substring(0, end));
            none(CUBE + ";" + CUBE.substring(0, end));
            none(THREE + ";" + CUBE.substring(0, end));
        }
        String below = "-9:-8,-7:-6,-5:-4";
        for (int end = 0; end < below.length() - 1; end++) {
            none(below.substring(0, end));
            none(THREE + ";" + below.substring(0, Math.min(12, end)));
        }
        for (String span : new String[] {"1:1", "1:0", "0:-1", "-1:-1", "-1:-2", "999:998", "999:999", "-999:-999"}) {
            none(span + ",0:1,0:1");
            none("0:1," + span + ",0:1");
            none("0:1,0:1," + span);
            none(CUBE + ";" + span + ",0:1,0:1");
            none(THREE + ";0:1,0:1," + span);
        }
        none(FOUR + ";");
        none(FOUR + ";" + CUBE);
        none(CUBE + " ");
        none("0:1000,0:1,0:1");
        none(OPEN_SIXTY);
        none("x" + SIXTY.substring(1));
    }

    private static void moreThanTwelve() {
        Due.sentence("promise 5: FULL: there would be more than 12");
        BoxFlickers x = Due.with(FOUR, FOUR);
        Due.bring(x, FOUR);
        Due.is("count(1)", x.count(1), 12);
        Due.write(x, CUBE);
        Due.refuses(x, "one more than twelve", x::boxes, FULL);
        x.remove(1 << 6);
        Due.is("as one has gone", x.boxes(), 1);
        x.remove(7);
        Due.write(x, FOUR);
        Due.refuses(x, "four, and three are free", x::boxes, FULL);
        Due.is("count(0): the letters stay", x.count(0), 47);
        Due.is("count(9): none of them came", x.count(9), 4095 & ~7);
        x.blank();
        Due.write(x, THREE);
        Due.is("three, and three are free", x.boxes(), 3);
        Due.write(x, "1:0,0:1,0:1");
        Due.refuses(x, "none, and full: STATE first", x::boxes, STATE);
    }
}
