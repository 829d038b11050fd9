/** Counts what is not as due, prints it, and ends a test with exit code 1 if there was any. */
final class Check {
    private final String test;
    private int promise;
    private long calls;
    private long wrong;

    Check(String test) {
        this.test = test;
    }

    /** What follows tests this promise. */
    void promise(int number) {
        promise = number;
    }

    void due(String call, long got, long want) {
        calls++;
        if (got != want) {
            wrong++;
            System.out.println(test + ", promise " + promise + ": " + call + " answered " + got + ", due is " + want);
        }
    }

    void holds(String what, boolean so) {
        calls++;
        if (!so) {
            wrong++;
            System.out.println(test + ": " + what);
        }
    }

    boolean isClean() {
        return wrong == 0;
    }

    void end() {
        System.out.println(test + ": " + calls + " answers, " + wrong + " not as due");
        if (wrong != 0) {
            System.exit(1);
        }
    }

    static void feed(MissingNote x, String text) {
        for (int k = 0; k < text.length(); k++) {
            x.feed(text.charAt(k));
        }
    }

    /** What valley() answers to a text. */
    static int read(MissingNote x, String text) {
        feed(x, text);
        return x.valley();
    }

    /** A new object that holds the valley of a text. */
    static MissingNote valley(String text) {
        MissingNote x = new MissingNote();
        if (read(x, text) < 1) {
            throw new IllegalStateException("no valley: " + text);
        }
        return x;
    }

    /** Lays a row of a lane with these items on a sheet. */
    static void lay(MissingNote x, int sheet, int lane, long... items) {
        x.sheet(sheet, lane, items.length);
        for (int i = 0; i < items.length; i++) {
            x.item(sheet, lane, i, items[i]);
        }
    }
}
