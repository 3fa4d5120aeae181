import java.util.function.IntSupplier;

/** Compares answers with those that are due, and helps to write THE PAGE. */
final class Due {
    private static int asked = 0;
    private static int wrong = 0;
    private static int sentences = 0;
    private static String said = "";

    private Due() {
    }

    static void is(String call, long got, long want) {
        asked++;
        if (got != want) {
            wrong++;
            System.out.println(said + call + " answered " + got + ", due is " + want);
        }
    }

    /** What follows, up to the next call, tests these words of the document: a wrong answer is told with them. */
    static void sentence(String words) {
        sentences++;
        said = "[" + words + "] ";
    }

    /** A refused call changes nothing: what digest() sums up stays as it was. */
    static void refuses(BoxFlickers x, String call, IntSupplier made, int want) {
        long before = x.digest();
        is(call, made.getAsInt(), want);
        is(call + " changes nothing: digest()", x.digest(), before);
    }

    static void that(String claim, boolean holds) {
        is(claim, holds ? 1 : 0, 1);
    }

    /** Several answers in a row: call(0), call(1) and so on, told by the numbers themselves. */
    static void are(String call, long[] got, long... want) {
        is(call + " (how many)", got.length, want.length);
        for (int i = 0; i < Math.min(got.length, want.length); i++) {
            is(call + " [" + i + "]", got[i], want[i]);
        }
    }

    static void write(BoxFlickers x, String text) {
        for (int i = 0; i < text.length(); i++) {
            x.letter(text.charAt(i));
        }
    }

    static BoxFlickers page(String text) {
        BoxFlickers x = new BoxFlickers();
        write(x, text);
        is("count(0) of " + text, x.count(0), text.length());
        return x;
    }

    static BoxFlickers with(String... batches) {
        BoxFlickers x = new BoxFlickers();
        for (String batch : batches) {
            bring(x, batch);
        }
        return x;
    }

    static void bring(BoxFlickers x, String batch) {
        write(x, batch);
        int want = batch.split(";").length;
        is("boxes() of " + batch, x.boxes(), want);
    }

    static long[] latest(BoxFlickers x) {
        long[] told = new long[7];
        for (int what = 0; what < 7; what++) {
            told[what] = x.latest(what);
        }
        return told;
    }

    static long[] counts(BoxFlickers x) {
        long[] told = new long[10];
        for (int what = 0; what < 10; what++) {
            told[what] = x.count(what);
        }
        return told;
    }

    static long[] heaps(BoxFlickers x) {
        return new long[] {x.heap(0), x.heap(1), x.heap(2), x.heap(3)};
    }

    static long[] box(BoxFlickers x, int box) {
        long[] told = new long[9];
        for (int what = 0; what < 9; what++) {
            told[what] = x.box(box, what);
        }
        return told;
    }

    /** The ENDS of an AXIS: 2 times the BOX, and 1 more for a HIGH. */
    static long[] ends(BoxFlickers x, int axis) {
        long[] told = new long[2 * x.count(1)];
        for (int place = 0; place < told.length; place++) {
            told[place] = 2 * x.end(axis, place, 0) + x.end(axis, place, 1);
        }
        return told;
    }

    /** All EVENTS: 2 times the pair, and 1 more for BEGUN. */
    static long[] events(BoxFlickers x) {
        long[] told = new long[x.latest(0)];
        for (int place = 0; place < told.length; place++) {
            told[place] = 2 * x.event(place, 0) + x.event(place, 1);
        }
        return told;
    }

    static long[] pairs(BoxFlickers x) {
        long[] told = new long[x.count(2)];
        for (int place = 0; place < told.length; place++) {
            told[place] = x.pair(place);
        }
        return told;
    }

    static void close(String name) {
        String of = sentences > 0 ? " to " + sentences + " sentences" : "";
        System.out.println(name + ": " + asked + " answers" + of + ", " + wrong + " not as due");
        if (wrong != 0 || asked == 0) {
            System.exit(1);
        }
    }
}
