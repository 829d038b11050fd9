import java.util.Random;

/** All promises: runs of calls drawn by fixed seeds, each answer against the plain telling of the document in Oracle. */
public final class OracleTest {
    private static final Check CHECK = new Check("OracleTest");
    private static final String FIGURES = "0123456789ab";
    private static final int CALLS = 500;

    private final Random random;
    private final int most;
    private final MissingNote x = new MissingNote();
    private final Oracle y = new Oracle();
    private int calls;
    private String texts = "";

    private OracleTest(long seed, int most) {
        this.random = new Random(seed);
        this.most = most;
    }

    public static void main(String[] args) {
        for (int seed = 0; seed < 2500 && CHECK.isClean(); seed++) {
            new OracleTest(seed, 5).faults();
        }
        for (int seed = 0; seed < 250 && CHECK.isClean(); seed++) {
            new OracleTest(seed, 3).run();
        }
        for (int seed = 0; seed < 12 && CHECK.isClean(); seed++) {
            new OracleTest(seed, 5).standAndSound();
        }
        for (int seed = 0; seed < 60 && CHECK.isClean(); seed++) {
            new OracleTest(seed, 5).chords();
        }
        CHECK.end();
    }

    private int upTo(int n) {
        return random.nextInt(n + 1);
    }

    /** Mostly from 0 to n, now and then one off, seldom far off. */
    private int about(int n) {
        int k = random.nextInt(40);
        if (k == 0) {
            return random.nextInt();
        }
        return k < 4 ? upTo(n + 2) - 1 : upTo(Math.max(0, n));
    }

    private void due(String call, long got, long want) {
        calls++;
        CHECK.due(texts + call, got, want);
    }

    // texts of valleys

    private String pitches(int atLeast, int atMost, boolean fromRoot) {
        int many = atLeast + upTo(atMost - atLeast);
        int set = fromRoot ? 1 : 0;
        while (Integer.bitCount(set) < many) {
            set |= 1 << random.nextInt(12);
        }
        StringBuilder text = new StringBuilder();
        for (int k = 0; k < 12; k++) {
            if ((set & 1 << k) != 0) {
                text.append(FIGURES.charAt(k));
            }
        }
        return text.toString();
    }

    private String text() {
        StringBuilder text = new StringBuilder("m");
        int shapes = 1 + upTo(3);
        for (int k = 0; k < shapes; k++) {
            text.append(k == 0 ? "" : ",").append(pitches(2, 5, true));
        }
        int fields = 1 + upTo(most - 1);
        for (int k = 0; k < fields; k++) {
            text.append(k == 0 ? ";" : ",");
            text.append(random.nextInt(8) == 0 ? "-" : pitches(1, random.nextInt(4) == 0 ? 12 : 3, false));
        }
        int singers = 1 + upTo(most - 1);
        for (int k = 0; k < singers; k++) {
            int low = random.nextInt(3) == 0 ? upTo(11) : 0;
            int high = random.nextInt(3) == 0 ? low + upTo(11 - low) : 11;
            text.append(k == 0 ? ";" : ",").append("shtdf".charAt(upTo(4)));
            text.append(FIGURES.charAt(low)).append(FIGURES.charAt(high));
            text.append(random.nextInt(6) == 0 ? "-" : String.valueOf(upTo(fields - 1)));
        }
        return text.toString();
    }

    private String spoiled(String text) {
        StringBuilder spoiled = new StringBuilder(text);
        String letters = "m,;-0123456789abcshtdf\u0000\u00ff A";
        int times = 1 + upTo(1);
        for (int k = 0; k < times; k++) {
            int place = upTo(spoiled.length() - 1);
            char letter = letters.charAt(upTo(letters.length() - 1));
            switch (random.nextInt(4)) {
                case 0:
                    spoiled.deleteCharAt(place);
                    break;
                case 1:
                    spoiled.insert(place, letter);
                    break;
                case 2:
                    spoiled.setCharAt(place, letter);
                    break;
                default:
                    spoiled.setLength(Math.max(1, place));
                    break;
            }
        }
        return spoiled.toString();
    }

    private void read(String text) {
        for (char letter : text.toCharArray()) {
            due("feed(" + (int) letter + ")", x.feed(letter), y.feed(letter));
        }
        due("valley() of " + text, x.valley(), y.valley());
        texts = text + ": ";
    }

    private void compareAll() {
        for (int k = 0; k < 9; k++) {
            due("count(" + k + ")", x.count(k), y.count(k));
        }
        for (int k = 0; k < 5; k++) {
            due("shape(" + k + ")", x.shape(k), y.shape(k));
            due("sings(" + k + ")", x.sings(k), y.sings(k));
            for (int what = 0; what < 5; what++) {
                due("field(" + k + ", " + what + ")", x.field(k, what), y.field(k, what));
                due("singer(" + k + ", " + what + ")", x.singer(k, what), y.singer(k, what));
            }
        }
    }

    private void faults() {
        read(text());
        read(spoiled(text()));
        compareAll();
    }

    private void chords() {
        read(text());
        while (calls < CALLS) {
            int set = upTo(4095) & upTo(4095);
            int what = upTo(2);
            due("chord(" + set + ", " + what + ")", x.chord(set, what), y.chord(set, what));
        }
    }

    /** The calls that the plain telling takes long for, in valleys of up to five fields and singers. */
    private void standAndSound() {
        read(text());
        for (int k = 0; k < 6; k++) {
            due("hour()", x.hour(), y.hour());
        }
        due("stands(-1)", x.stands(-1), y.stands(-1));
        int singer = upTo(most - 1);
        due("stands(" + singer + ")", x.stands(singer), y.stands(singer));
        pairs(true);
        compareAll();
    }

    // runs of calls

    private void run() {
        read(text());
        while (calls < CALLS && CHECK.isClean()) {
            int k = random.nextInt(100);
            if (k < 2) {
                if (calls < CALLS - 70) {
                    read(random.nextInt(3) == 0 ? spoiled(text()) : text());
                }
            } else if (k < 40) {
                act();
            } else if (k < 60) {
                told();
            } else if (k < 80) {
                foretold();
            } else {
                onSheets();
            }
        }
    }

    private void act() {
        int a = about(most - 1);
        int b = about(most);
        int pitch = about(11);
        switch (random.nextInt(10)) {
            case 0:
            case 1:
            case 2:
            case 3:
                due("hour()", x.hour(), y.hour());
                break;
            case 4:
            case 5:
                due("send(" + a + ", " + (b - 1) + ")", x.send(a, b - 1), y.send(a, b - 1));
                break;
            case 6:
            case 7:
                due("sound(" + a + ", " + pitch + ")", x.sound(a, pitch), y.sound(a, pitch));
                break;
            case 8:
                due("undo()", x.undo(), y.undo());
                break;
            default:
                imageOrRestore(about(1));
                break;
        }
    }

    private void imageOrRestore(int k) {
        if (random.nextInt(2) == 0) {
            due("image(" + k + ")", x.image(k), y.image(k));
        } else {
            due("restore(" + k + ")", x.restore(k), y.restore(k));
        }
    }

    private void told() {
        int a = about(most - 1);
        int what = about(4);
        int set = about(4095);
        int c = about(8);
        switch (random.nextInt(6)) {
            case 0:
                due("shape(" + a + ")", x.shape(a), y.shape(a));
                break;
            case 1:
                due("field(" + a + ", " + what + ")", x.field(a, what), y.field(a, what));
                break;
            case 2:
                due("singer(" + a + ", " + what + ")", x.singer(a, what), y.singer(a, what));
                break;
            case 3:
                due("as(" + a + ", " + what + ")", x.as(a, what), y.as(a, what));
                break;
            case 4:
                due("chord(" + set + ", " + what / 2 + ")", x.chord(set, what / 2), y.chord(set, what / 2));
                break;
            default:
                due("count(" + c + ")", x.count(c), y.count(c));
                break;
        }
    }

    private void foretold() {
        int a = about(most - 1);
        int n = about(random.nextInt(2) == 0 ? 60 : 8);
        int q = about(10);
        int seed = random.nextInt(20) == 0 ? about(1) : 1 + upTo(999999);
        int what = about(1);
        switch (random.nextInt(9)) {
            case 0:
                due("sings(" + a + ")", x.sings(a), y.sings(a));
                break;
            case 1:
                due("ahead(" + n + ", " + what + ")", x.ahead(n, what), y.ahead(n, what));
                break;
            case 2:
                due("fills(" + a + ")", x.fills(a), y.fills(a));
                break;
            case 3:
                due("stands(" + (a - 1) + ")", x.stands(a - 1), y.stands(a - 1));
                break;
            case 4:
                due("howls(" + a + ")", x.howls(a), y.howls(a));
                break;
            case 5:
                due("back(" + a + ")", x.back(a), y.back(a));
                break;
            case 6:
            case 7:
                due("wind(" + a + ", " + q + ", " + what + ")", x.wind(a, q, what), y.wind(a, q, what));
                break;
            default:
                due("decades(" + n + ", " + seed + ", " + what + ")", x.decades(n, seed, what), y.decades(n, seed, what));
                break;
        }
    }

    private void onSheets() {
        int sheet = about(3);
        int other = about(3);
        int lane = about(3);
        int i = about(12);
        int j = about(12);
        int n = about(24);
        long v = random.nextInt(3) == 0 ? random.nextLong() : about(12);
        switch (random.nextInt(12)) {
            case 0:
            case 1:
                due("sheet(" + sheet + ", " + lane + ", " + n + ")", x.sheet(sheet, lane, n), y.sheet(sheet, lane, n));
                break;
            case 2:
                if (random.nextInt(4) == 0) {
                    due("drop(" + sheet + ")", x.drop(sheet), y.drop(sheet));
                }
                break;
            case 3:
            case 4:
            case 5:
                due("item(" + sheet + ", " + lane + ", " + i + ", " + v + ")", x.item(sheet, lane, i, v), y.item(sheet, lane, i, v));
                break;
            case 6:
            case 7:
                due("copy(" + sheet + ", " + i + ", " + other + ", " + j + ", " + n / 4 + ")",
                        x.copy(sheet, i, other, j, n / 4), y.copy(sheet, i, other, j, n / 4));
                break;
            case 8:
            case 9:
                due("log(" + sheet + ", " + lane + ", " + i + ")", x.log(sheet, lane, i), y.log(sheet, lane, i));
                break;
            default:
                pairs(random.nextInt(4) == 0);
                break;
        }
    }

    /** Pairs that are often true of some set, so that something is found; or whatever a sheet holds. */
    private void pairs(boolean laid) {
        int sheet = about(3);
        int lane = about(3);
        int i = about(3);
        int n = 1 + about(laid ? 1 : 5);
        int who = about(most - 1);
        int what = about(2);
        if (laid) {
            due("sheet(" + sheet + ", " + lane + ", 24)", x.sheet(sheet, lane, 24), y.sheet(sheet, lane, 24));
            for (int k = 0; k < 8; k++) {
                long v = k % 2 == 1 ? (random.nextInt(2) == 0 ? 12 : about(12)) : upTo(most - 1);
                due("item(" + sheet + ", " + lane + ", " + (i + k) + ", " + v + ")",
                        x.item(sheet, lane, i + k, v), y.item(sheet, lane, i + k, v));
            }
        }
        due("sounded(" + sheet + ", " + lane + ", " + i + ", " + n + ", " + what + ")",
                x.sounded(sheet, lane, i, n, what), y.sounded(sheet, lane, i, n, what));
        due("kinds(" + who + ", " + sheet + ", " + lane + ", " + i + ", " + n + ")",
                x.kinds(who, sheet, lane, i, n), y.kinds(who, sheet, lane, i, n));
    }
}
