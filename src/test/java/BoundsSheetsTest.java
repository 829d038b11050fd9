import java.io.IOException;

/** The boundary cases of the sheets: each sentence of part 4 of the terms and of promises 23 to 30. */
public final class BoundsSheetsTest {
    private static final Script S = new Script("BoundsSheetsTest");
    /** Two shapes; fields that miss 7, that miss 4 and 7, that are silent, that have no chord; one of each kind. */
    private static final String FIVE = "read(m047,037;04,0,-,012;s0b0,h0b1,t0b1,d001,f0b-) = 5";
    /**
     * One singer, who sings a pitch where the one 6 off it sounds alone, and nothing by all other sets: so the least set
     * of the pair 0 and p tells p, as the bit of p + 6, and by 12 what is left over.
     */
    private static final String OPEN = "read(m06;-;s0b-) = 1";
    /** Pairs that all hold: singer 0 sang 1, which tells 128. */
    private static final String SIX_PAIRS = "0, 1, 0, 1, 0, 1, 0, 1, 0, 1, 0, 1";

    public static void main(String[] args) throws IOException {
        sheetBounds();
        sheetIsNew();
        dropBounds();
        itemBounds();
        itemLowestBits();
        itemOrder();
        copyBounds();
        copyAsIfTakenAhead();
        copyOrder();
        logBounds();
        logNothing();
        logOrder();
        soundedBounds();
        soundedItems();
        soundedSets();
        hear();
        soundedOrder();
        kindsBounds();
        kindsItems();
        kindsSets();
        kindsOrder();
        countBounds();
        countSets();
        countRound();
        S.end(args);
    }

    private static void sheetBounds() {
        S.sentence(23, "A SHEET holds a new row of a LANE, of n items 0: n. BAD: also n above 24; SIZE: n below 0.");
        S.run("sheet(-1, 0, 1) = BAD", "sheet(0, 0, 1) = 1", "sheet(3, 0, 1) = 1", "sheet(4, 0, 1) = BAD", "sheet(MIN, 0, 1) = BAD",
                "sheet(MAX, 0, 1) = BAD", "drop(0) = 1", "drop(1) = NULL", "drop(2) = NULL", "drop(3) = 1");
        S.run("sheet(1, -1, 1) = BAD", "sheet(1, 4, 1) = BAD", "sheet(1, MIN, 1) = BAD", "sheet(1, MAX, 1) = BAD", "drop(1) = NULL",
                "sheet(1, 0, 1) = 1", "item(1, 0, 0, 5) = 5", "sheet(1, 3, 1) = 1", "item(1, 3, 0, 5) = 5");
        S.sentence(23, "0 bytes, 1 shorts, 2 ints, 3 longs, of 0 to 24 items.");
        S.run("sheet(2, 1, -1) = SIZE", "sheet(2, 1, MIN) = SIZE", "drop(2) = NULL", "sheet(2, 1, 0) = 0", "drop(2) = 0",
                "sheet(2, 1, 1) = 1", "sheet(2, 1, 24) = 24", "sheet(2, 1, 25) = BAD", "sheet(2, 1, MAX) = BAD", "sheet(2, 1, -1) = SIZE",
                "drop(2) = 24");
        for (int lane = 0; lane < 4; lane++) {
            S.run("sheet(0, " + lane + ", 0) = 0", "drop(0) = 0", "sheet(0, " + lane + ", 24) = 24", "sheet(0, " + lane + ", 25) = BAD",
                    "sheet(0, " + lane + ", -1) = SIZE", "drop(0) = 24");
        }
        S.sentence(23, "of several the first that a call names");
        S.run("sheet(-1, 0, -1) = BAD", "sheet(4, 0, -1) = BAD", "sheet(0, -1, -1) = BAD", "sheet(0, 4, -1) = BAD", "sheet(4, 4, 25) = BAD",
                "sheet(0, 0, -1) = SIZE", "drop(0) = NULL");
    }

    private static void sheetIsNew() {
        S.sentence(23, "A SHEET holds a new row of a LANE, of n items 0: n.");
        S.run(OPEN, "lay(0, 2, 0, 1, 0, 2)", "sounded(0, 2, 0, 1, 1) = 128", "sounded(0, 2, 2, 1, 1) = 256", "sheet(0, 2, 4) = 4",
                "sounded(0, 2, 0, 1, 1) = 64", "sounded(0, 2, 2, 1, 1) = 64");
        // Shorter and longer again: what stood behind does not come back.
        S.run(OPEN, "lay(0, 2, 0, 1, 0, 2)", "sheet(0, 2, 2) = 2", "sounded(0, 2, 2, 1, 1) = INDEX", "sheet(0, 2, 4) = 4",
                "sounded(0, 2, 2, 1, 1) = 64");
        S.run(OPEN, "lay(0, 2, 0, 1)", "drop(0) = 2", "sheet(0, 2, 2) = 2", "sounded(0, 2, 0, 1, 1) = 64");
        // Another lane in place of the one before; the other sheets stay.
        S.run(OPEN, "lay(0, 0, 0, 1)", "lay(1, 0, 0, 3)", "sheet(0, 3, 2) = 2", "item(0, 0, 0, 0) = CAST", "sounded(0, 3, 0, 1, 1) = 64",
                "sounded(1, 0, 0, 1, 1) = 512");
    }

    private static void dropBounds() {
        S.sentence(24, "A SHEET holds nothing: how many items it had. BAD; NULL.");
        S.run("sheet(0, 0, 0) = 0", "sheet(1, 1, 1) = 1", "sheet(2, 2, 23) = 23", "sheet(3, 3, 24) = 24", "drop(-1) = BAD",
                "drop(4) = BAD", "drop(MIN) = BAD", "drop(MAX) = BAD", "drop(0) = 0", "drop(3) = 24", "drop(1) = 1", "drop(2) = 23",
                "drop(0) = NULL", "drop(1) = NULL", "drop(2) = NULL", "drop(3) = NULL");
        S.sentence(24, "NULL -11 (a SHEET that is nothing)");
        S.run(OPEN, "lay(0, 1, 0, 1)", "drop(0) = 2", "drop(0) = NULL", "item(0, 1, 0, 1) = NULL", "copy(0, 0, 0, 0, 0) = NULL",
                "log(0, 1, 0) = NULL", "sounded(0, 1, 0, 1, 0) = NULL", "kinds(0, 0, 1, 0, 1) = NULL", "sheet(0, 1, 2) = 2",
                "item(0, 1, 1, 1) = 1", "drop(0) = 2");
        // An empty row is not nothing.
        S.run(OPEN, "sheet(0, 1, 0) = 0", "item(0, 1, 0, 1) = INDEX", "copy(0, 0, 0, 0, 0) = 0", "log(0, 1, 0) = INDEX", "drop(0) = 0",
                "drop(0) = NULL");
    }

    private static void itemBounds() {
        S.sentence(25, "Item i of a SHEET, taken as a row of a LANE, becomes v, its lowest bits: what it is then. BAD; NULL; CAST; INDEX.");
        for (int lane = 0; lane < 4; lane++) {
            String at = "item(" + lane + ", " + lane + ", ";
            S.run("sheet(" + lane + ", " + lane + ", 24) = 24", at + "-1, 5) = INDEX", at + "0, 5) = 5", at + "23, 6) = 6",
                    at + "24, 7) = INDEX", at + "MIN, 7) = INDEX", at + "MAX, 7) = INDEX");
            S.run("sheet(" + lane + ", " + lane + ", 1) = 1", at + "-1, 5) = INDEX", at + "0, 5) = 5", at + "1, 5) = INDEX");
            S.run("sheet(" + lane + ", " + lane + ", 0) = 0", at + "-1, 5) = INDEX", at + "0, 5) = INDEX");
        }
        S.run("sheet(0, 0, 1) = 1", "sheet(3, 0, 1) = 1", "item(-1, 0, 0, 5) = BAD", "item(0, 0, 0, 5) = 5", "item(3, 0, 0, 5) = 5",
                "item(4, 0, 0, 5) = BAD", "item(MIN, 0, 0, 5) = BAD", "item(MAX, 0, 0, 5) = BAD", "item(0, -1, 0, 5) = BAD",
                "item(0, 4, 0, 5) = BAD", "item(0, MIN, 0, 5) = BAD", "item(0, MAX, 0, 5) = BAD", "item(1, 0, 0, 5) = NULL",
                "item(0, 1, 0, 5) = CAST", "item(0, 3, 0, 5) = CAST");
        // Only this item, and it stays.
        S.run(OPEN, "lay(0, 0, 0, 1, 0, 1, 0, 1)", "item(0, 0, 3, 4) = 4", "sounded(0, 0, 0, 1, 1) = 128", "sounded(0, 0, 2, 1, 1) = 1024",
                "sounded(0, 0, 4, 1, 1) = 128");
    }

    private static void itemLowestBits() {
        S.sentence(25, "becomes v, its lowest bits: what it is then.");
        S.run("sheet(0, 0, 1) = 1", "item(0, 0, 0, 127) = 127", "item(0, 0, 0, 128) = -128", "item(0, 0, 0, 255) = -1",
                "item(0, 0, 0, 256) = 0", "item(0, 0, 0, 257) = 1", "item(0, 0, 0, -1) = -1", "item(0, 0, 0, -128) = -128",
                "item(0, 0, 0, -129) = 127", "item(0, 0, 0, -256) = 0", "item(0, 0, 0, 4294967303) = 7",
                "item(0, 0, 0, 9223372036854775807) = -1", "item(0, 0, 0, -9223372036854775808) = 0");
        S.run("sheet(0, 1, 1) = 1", "item(0, 1, 0, 32767) = 32767", "item(0, 1, 0, 32768) = -32768", "item(0, 1, 0, 65535) = -1",
                "item(0, 1, 0, 65536) = 0", "item(0, 1, 0, -32768) = -32768", "item(0, 1, 0, -32769) = 32767",
                "item(0, 1, 0, 4294967303) = 7", "item(0, 1, 0, 9223372036854775807) = -1", "item(0, 1, 0, 128) = 128");
        S.run("sheet(0, 2, 1) = 1", "item(0, 2, 0, 2147483647) = 2147483647", "item(0, 2, 0, 2147483648) = -2147483648",
                "item(0, 2, 0, 4294967295) = -1", "item(0, 2, 0, 4294967296) = 0", "item(0, 2, 0, -2147483648) = -2147483648",
                "item(0, 2, 0, -2147483649) = 2147483647", "item(0, 2, 0, 9223372036854775807) = -1", "item(0, 2, 0, 32768) = 32768");
        S.run("sheet(0, 3, 1) = 1", "item(0, 3, 0, 9223372036854775807) = 9223372036854775807",
                "item(0, 3, 0, -9223372036854775808) = -9223372036854775808", "item(0, 3, 0, 2147483648) = 2147483648",
                "item(0, 3, 0, 4294967296) = 4294967296", "item(0, 3, 0, -1) = -1");
        // What is kept is what was told: 263 is 7 among bytes, and no pitch among shorts.
        S.run(OPEN, "sheet(0, 0, 2) = 2", "item(0, 0, 1, 263) = 7", "sounded(0, 0, 0, 1, 1) = 2");
        S.run(OPEN, "sheet(0, 1, 2) = 2", "item(0, 1, 1, 263) = 263", "sounded(0, 1, 0, 1, 1) = NOT", "item(0, 1, 1, 65543) = 7",
                "sounded(0, 1, 0, 1, 1) = 2");
    }

    private static void itemOrder() {
        S.sentence(25, "of several the first that a call names");
        // A sheet that is nothing, of another lane, out of its row; and each with a number that is not as told.
        S.run("sheet(0, 0, 2) = 2", "item(4, 0, 2, 1) = BAD", "item(-1, 4, -1, 1) = BAD", "item(1, 4, 2, 1) = BAD", "item(1, -1, 0, 1) = BAD",
                "item(0, 4, 2, 1) = BAD", "item(1, 0, 0, 1) = NULL", "item(1, 0, -1, 1) = NULL", "item(1, 3, 24, 1) = NULL",
                "item(0, 1, 0, 1) = CAST", "item(0, 1, 2, 1) = CAST", "item(0, 3, -1, 1) = CAST", "item(0, 0, 2, 1) = INDEX");
    }

    private static void copyBounds() {
        S.sentence(26, "n items of a SHEET from i on come to another one (or the same) from j on, as if all were taken ahead: n. BAD; "
                + "NULL (either); CAST: of unlike LANES; INDEX (n below 0, too).");
        String rows = "sheet(0, 2, 24) = 24";
        String other = "sheet(1, 2, 24) = 24";
        S.run(rows, other, "copy(0, 0, 1, 0, 24) = 24", "copy(0, 0, 1, 0, 25) = INDEX", "copy(0, 1, 1, 0, 24) = INDEX",
                "copy(0, 0, 1, 1, 24) = INDEX", "copy(0, 1, 1, 0, 23) = 23", "copy(0, 0, 1, 1, 23) = 23", "copy(0, 23, 1, 23, 1) = 1",
                "copy(0, 24, 1, 0, 1) = INDEX", "copy(0, 0, 1, 24, 1) = INDEX", "copy(0, -1, 1, 0, 1) = INDEX", "copy(0, 0, 1, -1, 1) = INDEX");
        S.run(rows, other, "copy(0, 0, 1, 0, 0) = 0", "copy(0, 24, 1, 24, 0) = 0", "copy(0, 25, 1, 0, 0) = INDEX",
                "copy(0, 0, 1, 25, 0) = INDEX", "copy(0, -1, 1, 0, 0) = INDEX", "copy(0, 0, 1, -1, 0) = INDEX", "copy(0, 0, 0, 0, 24) = 24",
                "copy(0, 0, 0, 0, 0) = 0");
        S.sentence(26, "INDEX (n below 0, too).");
        S.run(rows, other, "copy(0, 0, 1, 0, -1) = INDEX", "copy(0, 5, 1, 5, -1) = INDEX", "copy(0, 24, 1, 24, -24) = INDEX",
                "copy(0, 0, 1, 0, MIN) = INDEX", "copy(0, 0, 1, 0, MAX) = INDEX", "copy(0, MAX, 1, 0, MAX) = INDEX",
                "copy(0, 0, 1, MAX, MAX) = INDEX", "copy(0, MAX, 1, 0, 1) = INDEX", "copy(0, 0, 1, MAX, 1) = INDEX",
                "copy(0, MIN, 1, 0, MIN) = INDEX", "copy(0, MIN, 1, MIN, MAX) = INDEX", "copy(0, MIN, 1, 0, 0) = INDEX");
        // Rows of unlike length: each has its own end.
        S.run("sheet(0, 2, 3) = 3", "sheet(1, 2, 5) = 5", "copy(0, 0, 1, 2, 3) = 3", "copy(0, 0, 1, 3, 3) = INDEX", "copy(1, 0, 0, 0, 3) = 3",
                "copy(1, 0, 0, 0, 4) = INDEX", "copy(1, 2, 0, 0, 3) = 3", "copy(1, 3, 0, 0, 3) = INDEX", "copy(0, 0, 1, 0, 4) = INDEX",
                "copy(1, 4, 0, 2, 1) = 1", "copy(1, 4, 0, 3, 1) = INDEX");
        S.run("sheet(0, 2, 0) = 0", "sheet(1, 2, 0) = 0", "copy(0, 0, 1, 0, 0) = 0", "copy(0, 0, 1, 0, 1) = INDEX", "copy(0, 1, 1, 0, 0) = INDEX");
        S.run("sheet(0, 0, 1) = 1", "sheet(3, 0, 1) = 1", "copy(-1, 0, 0, 0, 1) = BAD", "copy(4, 0, 0, 0, 1) = BAD", "copy(0, 0, 3, 0, 1) = 1",
                "copy(3, 0, 0, 0, 1) = 1", "copy(0, 0, -1, 0, 1) = BAD", "copy(0, 0, 4, 0, 1) = BAD", "copy(MIN, 0, 0, 0, 1) = BAD",
                "copy(MAX, 0, 0, 0, 1) = BAD", "copy(0, 0, MIN, 0, 1) = BAD", "copy(0, 0, MAX, 0, 1) = BAD");
    }

    private static void copyAsIfTakenAhead() {
        S.sentence(26, "as if all were taken ahead");
        // Up and down by one pair within the row 0 1 0 2 0 3, and by one item.
        S.run(OPEN, "lay(0, 0, 0, 1, 0, 2, 0, 3)", "copy(0, 0, 0, 2, 4) = 4", "sounded(0, 0, 0, 1, 1) = 128", "sounded(0, 0, 2, 1, 1) = 128",
                "sounded(0, 0, 4, 1, 1) = 256");
        S.run(OPEN, "lay(0, 0, 0, 1, 0, 2, 0, 3)", "copy(0, 2, 0, 0, 4) = 4", "sounded(0, 0, 0, 1, 1) = 256", "sounded(0, 0, 2, 1, 1) = 512",
                "sounded(0, 0, 4, 1, 1) = 512");
        S.run(OPEN, "lay(0, 3, 0, 0, 1, 0, 2, 0)", "copy(0, 1, 0, 0, 5) = 5", "sounded(0, 3, 0, 1, 1) = 128", "sounded(0, 3, 2, 1, 1) = 256",
                "sounded(0, 3, 4, 1, 1) = 64");
        S.run(OPEN, "lay(0, 3, 1, 0, 2, 0, 3, 4)", "copy(0, 0, 0, 1, 5) = 5", "item(0, 3, 0, 0) = 0", "sounded(0, 3, 0, 1, 1) = 128",
                "sounded(0, 3, 2, 1, 1) = 256", "sounded(0, 3, 4, 1, 1) = 512");
        // To another: what is copied and no more, and the first stays; all lanes.
        for (int lane = 0; lane < 4; lane++) {
            S.run(OPEN, "lay(1, " + lane + ", 0, 1, 0, 2)", "lay(2, " + lane + ", 0, 5, 0, 5, 0, 5)", "copy(1, 2, 2, 2, 2) = 2",
                    "sounded(2, " + lane + ", 0, 1, 1) = 2048", "sounded(2, " + lane + ", 2, 1, 1) = 256",
                    "sounded(2, " + lane + ", 4, 1, 1) = 2048", "sounded(1, " + lane + ", 0, 1, 1) = 128",
                    "sounded(1, " + lane + ", 2, 1, 1) = 256");
        }
        // None is copied, and nothing changes.
        S.run(OPEN, "lay(1, 0, 0, 1)", "lay(2, 0, 0, 5)", "copy(1, 0, 2, 0, 0) = 0", "sounded(2, 0, 0, 1, 1) = 2048");
    }

    private static void copyOrder() {
        S.sentence(26, "NULL (either)");
        S.run("sheet(0, 0, 2) = 2", "copy(0, 0, 1, 0, 1) = NULL", "copy(1, 0, 0, 0, 1) = NULL", "copy(1, 0, 1, 0, 1) = NULL",
                "copy(2, 0, 1, 0, 0) = NULL");
        S.sentence(26, "CAST: of unlike LANES");
        S.run("sheet(0, 0, 2) = 2", "sheet(1, 1, 2) = 2", "sheet(2, 2, 2) = 2", "sheet(3, 3, 2) = 2", "copy(0, 0, 1, 0, 1) = CAST",
                "copy(1, 0, 0, 0, 1) = CAST", "copy(2, 0, 3, 0, 1) = CAST", "copy(3, 0, 2, 0, 1) = CAST", "copy(0, 0, 3, 0, 0) = CAST",
                "copy(1, 0, 1, 1, 1) = 1");
        S.sentence(26, "of several the first that a call names");
        S.run("sheet(0, 0, 2) = 2", "sheet(1, 1, 2) = 2", "copy(4, 0, 2, 0, 1) = BAD", "copy(2, 0, 4, 0, 1) = BAD", "copy(-1, -1, 2, -1, -1) = BAD",
                "copy(2, 0, -1, 0, 1) = BAD", "copy(0, 5, 2, 0, -1) = NULL", "copy(2, 0, 1, 5, -1) = NULL", "copy(0, 0, 1, 0, -1) = CAST",
                "copy(0, 3, 1, 0, 1) = CAST", "copy(0, 0, 1, 3, 1) = CAST", "copy(0, 0, 1, 0, 25) = CAST", "copy(0, 0, 4, 0, -1) = BAD");
    }

    private static void logBounds() {
        S.sentence(27, "What each SINGER sings in this HOUR (12: nothing), an item each, comes to a SHEET, taken as a row of a LANE, from i on: "
                + "how many. BAD (no VALLEY, too); NULL; CAST; INDEX.");
        S.run(FIVE, "sheet(0, 0, 24) = 24", "log(0, 0, -1) = INDEX", "log(0, 0, 0) = 5", "log(0, 0, 19) = 5", "log(0, 0, 20) = INDEX",
                "log(0, 0, 24) = INDEX", "log(0, 0, MIN) = INDEX", "log(0, 0, MAX) = INDEX");
        S.run(FIVE, "sheet(0, 0, 5) = 5", "log(0, 0, 0) = 5", "log(0, 0, 1) = INDEX", "sheet(0, 0, 4) = 4", "log(0, 0, 0) = INDEX",
                "sheet(0, 0, 0) = 0", "log(0, 0, 0) = INDEX");
        S.run(OPEN, "sheet(3, 0, 1) = 1", "log(3, 0, 0) = 1", "log(3, 0, 1) = INDEX", "log(-1, 0, 0) = BAD", "log(4, 0, 0) = BAD",
                "log(MIN, 0, 0) = BAD", "log(MAX, 0, 0) = BAD", "log(3, -1, 0) = BAD", "log(3, 4, 0) = BAD", "log(3, MIN, 0) = BAD",
                "log(3, MAX, 0) = BAD", "log(0, 0, 0) = NULL", "log(3, 1, 0) = CAST");
    }

    private static void logNothing() {
        S.sentence(27, "What each SINGER sings in this HOUR (12: nothing)");
        for (int lane = 0; lane < 4; lane++) {
            String row = "lay(0, " + lane + ", 0, 5, 0, 5)";
            String log = "log(0, " + lane + ", 1) = 1";
            // Nothing sounds: 12. A 0 sounds: 6 is sung, and so told. Behind it the 5 stays.
            S.run("read(m06;-;s0b0) = 1", row, log, "sounded(0, " + lane + ", 0, 1, 0) = 4083", "sounded(0, " + lane + ", 0, 1, 1) = 3",
                    "sounded(0, " + lane + ", 2, 1, 1) = 2048");
            S.run("read(m06;0;s0b0) = 1", row, log, "sounded(0, " + lane + ", 0, 1, 1) = 1", "sounded(0, " + lane + ", 2, 1, 1) = 2048");
            S.run("read(m06;6;s0b0) = 1", row, log, "sounded(0, " + lane + ", 0, 1, 1) = 64");
        }
        // Tired by 8: 12.
        S.run("read(m06;0;s0b0) = 1", "4 x hour() = 1", "lay(0, 0, 0, 5)", "log(0, 0, 1) = 1", "sounded(0, 0, 0, 1, 1) = 3", "hour() = 0",
                "log(0, 0, 1) = 1", "sounded(0, 0, 0, 1, 1) = 1");
        // Singers in their order: 6, nothing, and in the other field 6. Which stands where is told by making pairs of them.
        S.run("read(m06;0,0;s0b0,s0b0,s0b1) = 3", "lay(0, 1, 0, 1, 1, 1, 0, 1, 0, 1)", "log(0, 1, 1) = 3", "sounded(0, 1, 0, 1, 1) = 1",
                "item(0, 1, 2, 0) = 0", "sounded(0, 1, 2, 1, 1) = 1", "item(0, 1, 2, 1) = 1", "sounded(0, 1, 2, 1, 1) = 1",
                "sounded(0, 1, 4, 1, 1) = 128", "log(0, 1, 2) = 3", "item(0, 1, 2, 0) = 0", "sounded(0, 1, 2, 1, 1) = 3");
    }

    private static void logOrder() {
        S.sentence(27, "of several the first that a call names");
        S.run("sheet(0, 0, 5) = 5", "log(0, 0, 0) = BAD", "log(1, 0, 0) = BAD", "log(0, 1, 0) = BAD", "log(0, 0, 9) = BAD", FIVE,
                "log(0, 0, 0) = 5", "log(4, 0, 9) = BAD", "log(1, 4, 9) = BAD", "log(0, -1, 9) = BAD", "log(1, 0, 9) = NULL",
                "log(1, 3, -1) = NULL", "log(0, 1, 9) = CAST", "log(0, 3, -1) = CAST", "log(0, 0, 9) = INDEX");
    }

    private static void soundedBounds() {
        S.sentence(28, "SOUNDED by n pairs, items of a SHEET, taken as a row of a LANE, from i on: how many (what 0), the least (1; NONE), "
                + "HEAR (2; NONE). BAD (no VALLEY, too); NULL; CAST; INDEX; NOT: an item that is no SINGER, no PITCH or 12.");
        S.run(OPEN, "lay(0, 0, " + SIX_PAIRS + ", " + SIX_PAIRS + ")", "sounded(0, 0, 0, 0, 0) = BAD", "sounded(0, 0, 0, 1, 0) = 1",
                "sounded(0, 0, 0, 6, 0) = 1", "sounded(0, 0, 0, 7, 0) = BAD", "sounded(0, 0, 0, -1, 0) = BAD", "sounded(0, 0, 0, MIN, 0) = BAD",
                "sounded(0, 0, 0, MAX, 0) = BAD", "sounded(0, 0, 12, 6, 1) = 128", "sounded(0, 0, 13, 6, 1) = INDEX",
                "sounded(0, 0, 22, 1, 1) = 128", "sounded(0, 0, 23, 1, 1) = INDEX", "sounded(0, 0, 24, 1, 1) = INDEX",
                "sounded(0, 0, -1, 1, 1) = INDEX", "sounded(0, 0, -2, 1, 1) = INDEX", "sounded(0, 0, MIN, 6, 1) = INDEX",
                "sounded(0, 0, MAX, 6, 1) = INDEX");
        S.run(OPEN, "lay(0, 0, 0, 1)", "sounded(0, 0, 0, 1, -1) = BAD", "sounded(0, 0, 0, 1, 0) = 1", "sounded(0, 0, 0, 1, 1) = 128",
                "sounded(0, 0, 0, 1, 2) = 0", "sounded(0, 0, 0, 1, 3) = BAD", "sounded(0, 0, 0, 1, MIN) = BAD", "sounded(0, 0, 0, 1, MAX) = BAD",
                "sounded(0, 0, 0, 2, 0) = INDEX", "sounded(0, 0, 1, 1, 0) = INDEX");
        S.run(OPEN, "lay(3, 3, 0, 1)", "sounded(-1, 3, 0, 1, 0) = BAD", "sounded(4, 3, 0, 1, 0) = BAD", "sounded(MIN, 3, 0, 1, 0) = BAD",
                "sounded(MAX, 3, 0, 1, 0) = BAD", "sounded(3, 3, 0, 1, 0) = 1", "sounded(3, -1, 0, 1, 0) = BAD", "sounded(3, 4, 0, 1, 0) = BAD",
                "sounded(3, MIN, 0, 1, 0) = BAD", "sounded(3, MAX, 0, 1, 0) = BAD", "sounded(0, 3, 0, 1, 0) = NULL",
                "sounded(3, 2, 0, 1, 0) = CAST", "sounded(3, 0, 0, 1, 0) = CAST");
        S.run(OPEN, "sheet(0, 0, 0) = 0", "sounded(0, 0, 0, 1, 0) = INDEX", "lay(0, 0, 0)", "sounded(0, 0, 0, 1, 0) = INDEX");
        // An odd row: its last item is the first of no pair.
        S.run(OPEN, "lay(0, 0, 9, 0, 1)", "sounded(0, 0, 1, 1, 1) = 128", "sounded(0, 0, 2, 1, 1) = INDEX");
    }

    private static void soundedItems() {
        S.sentence(28, "NOT: an item that is no SINGER, no PITCH or 12.");
        S.run("read(m06;-;s0b-,d0b-) = 2", "lay(0, 1, 1, 12, 2, 12, -1, 12, 0, 13, 0, -1, 0, 0, 0, 11)", "sounded(0, 1, 0, 1, 0) = 4089",
                "sounded(0, 1, 2, 1, 0) = NOT", "sounded(0, 1, 4, 1, 0) = NOT", "sounded(0, 1, 6, 1, 0) = NOT", "sounded(0, 1, 8, 1, 0) = NOT",
                "sounded(0, 1, 10, 1, 0) = 1", "sounded(0, 1, 12, 1, 0) = 1", "sounded(0, 1, 0, 2, 0) = NOT", "sounded(0, 1, 8, 2, 1) = NOT",
                "sounded(0, 1, 8, 1, 2) = NOT");
        S.run("read(m06;-;s0b-,s0b-,s0b-,s0b-,s0b-) = 5", "lay(0, 0, 4, 1, 5, 1)", "sounded(0, 0, 0, 1, 1) = 128",
                "sounded(0, 0, 2, 1, 1) = NOT", "sounded(0, 0, 0, 2, 1) = NOT");
        // In the last of six pairs, too; and not what stands behind the last or ahead of the first.
        S.run(OPEN, "lay(0, 0, " + SIX_PAIRS + ")", "item(0, 0, 11, 13) = 13", "sounded(0, 0, 0, 6, 0) = NOT", "sounded(0, 0, 0, 5, 0) = 1",
                "item(0, 0, 11, 12) = 12", "sounded(0, 0, 0, 6, 0) = 0", "item(0, 0, 10, 1) = 1", "sounded(0, 0, 0, 6, 0) = NOT",
                "item(0, 0, 10, 0) = 0", "item(0, 0, 0, 9) = 9", "sounded(0, 0, 0, 1, 0) = NOT", "sounded(0, 0, 2, 5, 0) = 0");
        // Longs beyond ints are not cut; bytes are signed.
        S.run(OPEN, "lay(0, 3, 4294967296, 1, 0, 4294967297)", "sounded(0, 3, 0, 1, 0) = NOT", "sounded(0, 3, 2, 1, 0) = NOT",
                "lay(1, 2, 4294967296, 4294967297)", "sounded(1, 2, 0, 1, 1) = 128");
        S.run(OPEN, "lay(0, 0, 0, 255)", "sounded(0, 0, 0, 1, 0) = NOT", "lay(0, 0, 256, 257)", "sounded(0, 0, 0, 1, 1) = 128");
    }

    private static void soundedSets() {
        S.sentence(28, "sets (1 to 4095) such that, these SOUNDING, each of these SINGERS alone, TIRED or not, would sing that: how many; "
                + "the least; none.");
        // No drone ever sings 11 of 0 1, as 10 is the lesser root: all 4095 sets, from 1 on, and never 0.
        S.run("read(m01;-;dbb-) = 1", "lay(0, 0, 0, 12, 0, 11)", "sounded(0, 0, 0, 1, 0) = 4095", "sounded(0, 0, 0, 1, 1) = 1",
                "sounded(0, 0, 0, 1, 2) = 0", "sounded(0, 0, 2, 1, 0) = 0", "sounded(0, 0, 2, 1, 1) = NONE", "sounded(0, 0, 2, 1, 2) = NONE");
        // Just one set: 0 alone misses the 11 of 0 11 on 0, and 10 alone is 10 of 10 9.
        S.run("read(m0b;-;sbb-) = 1", "lay(0, 0, 0, 11)", "sounded(0, 0, 0, 1, 0) = 1", "sounded(0, 0, 0, 1, 1) = 1");
        // Two pairs that agree, two that do not, the same one twice.
        S.run("read(m06;-;s0b-,d0b-) = 2", "lay(0, 0, 0, 1, 1, 1, 0, 2, 0, 1, 0, 1)", "sounded(0, 0, 0, 2, 0) = 1", "sounded(0, 0, 0, 2, 1) = 128",
                "sounded(0, 0, 2, 2, 0) = 0", "sounded(0, 0, 2, 2, 1) = NONE", "sounded(0, 0, 2, 2, 2) = NONE", "sounded(0, 0, 6, 2, 0) = 1",
                "sounded(0, 0, 0, 3, 0) = 0");
        // Alone, wherever one stands and whoever stands there; tired or not.
        S.run("read(m06;0;s0b0,s0b0,s0b-) = 3", "lay(0, 0, 1, 6, 2, 6)", "sounded(0, 0, 0, 2, 0) = 1", "sounded(0, 0, 0, 2, 1) = 1",
                "4 x hour() = 1", "singer(0, 3) = 8", "lay(0, 0, 0, 6)", "sounded(0, 0, 0, 1, 1) = 1");
        // What does sound now makes no difference.
        S.run("read(m06;0123;s0b0) = 1", "lay(0, 0, 0, 6)", "sounded(0, 0, 0, 1, 1) = 1");
    }

    private static void hear() {
        S.sentence(28, "HEAR: the SINGER (of all) by whom the greatest part of these sets by which one would sing alike is least, of like ones "
                + "the first; none: there is no set.");
        S.run("read(m06;-;d0b-,s0b-,s0b-) = 3", "lay(0, 0, 0, 12, 1, 12)", "sounded(0, 0, 0, 1, 2) = 1", "sounded(0, 0, 2, 1, 2) = 0");
        // Not of those named alone: the last of five parts most.
        S.run("read(m06;-;d00-,d00-,d00-,d00-,s0b-) = 5", "lay(0, 0, 0, 12)", "sounded(0, 0, 0, 1, 2) = 4");
        // By 4, by 7, by both, by 5 and 9, by 3 and 8 the first sings 0; by two of them the second does not.
        S.run("read(m047;-;s0b-,h0b-) = 2", "lay(0, 0, 0, 0)", "sounded(0, 0, 0, 1, 0) = 5", "sounded(0, 0, 0, 1, 1) = 16",
                "sounded(0, 0, 0, 1, 2) = 1");
        S.run("read(m047;-;h0b-,s0b-) = 2", "lay(0, 0, 1, 0)", "sounded(0, 0, 0, 1, 0) = 5", "sounded(0, 0, 0, 1, 2) = 0");
        // One set only, and all sets in one part: the first.
        S.run("read(m06;-;s0b-,s0b-) = 2", "lay(0, 0, 1, 7)", "sounded(0, 0, 0, 1, 0) = 1", "sounded(0, 0, 0, 1, 2) = 0");
        S.run("read(m01;-;dbb-,dbb-) = 2", "lay(0, 0, 1, 12)", "sounded(0, 0, 0, 1, 0) = 4095", "sounded(0, 0, 0, 1, 2) = 0");
        S.run("read(m06;-;s0b-,d0b-) = 2", "lay(0, 0, 1, 7)", "sounded(0, 0, 0, 1, 0) = 0", "sounded(0, 0, 0, 1, 2) = NONE");
    }

    private static void soundedOrder() {
        S.sentence(28, "of several the first that a call names");
        S.run("lay(0, 0, 9, 99)", "sounded(0, 0, 0, 1, 0) = BAD", "sounded(1, 0, 0, 1, 0) = BAD", "sounded(0, 1, 0, 1, 0) = BAD",
                "sounded(0, 0, 5, 1, 0) = BAD", OPEN, "sounded(0, 0, 0, 1, 0) = NOT", "sounded(0, 0, 0, 0, 0) = BAD",
                "sounded(0, 0, 0, 7, 0) = BAD", "sounded(0, 0, 0, 1, 3) = BAD", "sounded(0, 0, 5, 1, 3) = BAD", "sounded(0, 1, 5, 7, 0) = BAD",
                "sounded(1, 0, 5, 0, 0) = BAD", "sounded(1, 4, 5, 1, 0) = BAD", "sounded(4, 0, 5, 1, 0) = BAD", "sounded(1, 0, 0, 1, 3) = BAD",
                "sounded(1, 0, 0, 1, 0) = NULL", "sounded(1, 3, -1, 6, 0) = NULL", "sounded(0, 3, 0, 1, 0) = CAST",
                "sounded(0, 3, -1, 6, 0) = CAST", "sounded(0, 0, 1, 1, 0) = INDEX", "sounded(0, 0, 0, 2, 0) = INDEX");
    }

    private static void kindsBounds() {
        S.sentence(29, "KINDS of a SINGER by n pairs, likewise, as a set (bits 1 .. 5). BAD; NULL; CAST; INDEX; NOT: an item that is no set, "
                + "no PITCH or 12.");
        // By the set 3 nobody sings, whatever the kind.
        String pairs = "3, 12, 3, 12, 3, 12, 3, 12, 3, 12, 3, 12";
        S.run(OPEN, "lay(0, 0, " + pairs + ", " + pairs + ")", "kinds(0, 0, 0, 0, 0) = BAD", "kinds(0, 0, 0, 0, 1) = 62",
                "kinds(0, 0, 0, 0, 6) = 62", "kinds(0, 0, 0, 0, 7) = BAD", "kinds(0, 0, 0, 0, -1) = BAD", "kinds(0, 0, 0, 0, MIN) = BAD",
                "kinds(0, 0, 0, 0, MAX) = BAD", "kinds(0, 0, 0, 12, 6) = 62", "kinds(0, 0, 0, 13, 6) = INDEX", "kinds(0, 0, 0, 22, 1) = 62",
                "kinds(0, 0, 0, 23, 1) = INDEX", "kinds(0, 0, 0, 24, 1) = INDEX", "kinds(0, 0, 0, -1, 1) = INDEX", "kinds(0, 0, 0, MIN, 6) = INDEX",
                "kinds(0, 0, 0, MAX, 6) = INDEX");
        S.run(OPEN, "lay(3, 3, 3, 12)", "kinds(-1, 3, 3, 0, 1) = BAD", "kinds(1, 3, 3, 0, 1) = BAD", "kinds(MIN, 3, 3, 0, 1) = BAD",
                "kinds(MAX, 3, 3, 0, 1) = BAD", "kinds(0, -1, 3, 0, 1) = BAD", "kinds(0, 4, 3, 0, 1) = BAD", "kinds(0, MIN, 3, 0, 1) = BAD",
                "kinds(0, MAX, 3, 0, 1) = BAD", "kinds(0, 3, -1, 0, 1) = BAD", "kinds(0, 3, 4, 0, 1) = BAD", "kinds(0, 3, MIN, 0, 1) = BAD",
                "kinds(0, 3, MAX, 0, 1) = BAD", "kinds(0, 3, 3, 0, 1) = 62", "kinds(0, 0, 3, 0, 1) = NULL", "kinds(0, 3, 2, 0, 1) = CAST",
                "kinds(0, 3, 3, 1, 1) = INDEX", "kinds(0, 3, 3, 0, 2) = INDEX");
        S.run("read(m06;-;s0b-,s0b-,s0b-,s0b-,s0b-) = 5", "lay(0, 0, 3, 12)", "kinds(4, 0, 0, 0, 1) = 62", "kinds(5, 0, 0, 0, 1) = BAD");
    }

    private static void kindsItems() {
        S.sentence(29, "NOT: an item that is no set, no PITCH or 12.");
        S.run(OPEN, "lay(0, 1, 0, 12, 1, 12, 4095, 12, 4096, 12, -1, 12, 3, 13, 3, -1, 1, 11, 1, 0)", "kinds(0, 0, 1, 0, 1) = 62",
                "kinds(0, 0, 1, 2, 1) = 48", "kinds(0, 0, 1, 4, 1) = 62", "kinds(0, 0, 1, 6, 1) = NOT", "kinds(0, 0, 1, 8, 1) = NOT",
                "kinds(0, 0, 1, 10, 1) = NOT", "kinds(0, 0, 1, 12, 1) = NOT", "kinds(0, 0, 1, 14, 1) = 0", "kinds(0, 0, 1, 16, 1) = 0",
                "kinds(0, 0, 1, 4, 2) = NOT", "kinds(0, 0, 1, 0, 3) = 48");
        S.run(OPEN, "lay(0, 2, 3, 12, 3, 12, 3, 12, 3, 12, 3, 12, 3, 13)", "kinds(0, 0, 2, 0, 6) = NOT", "kinds(0, 0, 2, 0, 5) = 62",
                "item(0, 2, 11, 12) = 12", "item(0, 2, 10, 4096) = 4096", "kinds(0, 0, 2, 0, 6) = NOT", "item(0, 2, 10, 4095) = 4095",
                "kinds(0, 0, 2, 0, 6) = 62");
        S.run(OPEN, "lay(0, 3, 4294967299, 12, 3, 4294967308)", "kinds(0, 0, 3, 0, 1) = NOT", "kinds(0, 0, 3, 2, 1) = NOT");
        // Of bytes the last set is 127; 128 is below 0.
        S.run(OPEN, "lay(0, 0, 127, 12, 128, 12)", "kinds(0, 0, 0, 0, 1) = 62", "kinds(0, 0, 0, 2, 1) = NOT");
    }

    private static void kindsSets() {
        S.sentence(29, "those that a SINGER may be of, alone there, TIRED or not.");
        // By 0 of 0 4 7 10: 4 a singer and a third, 10 a high one, nothing a drone, 7 a farmer; another pitch nobody.
        S.run("read(m047a;-;s0b-) = 1", "lay(0, 1, 1, 4, 1, 10, 1, 12, 1, 7, 1, 5)", "kinds(0, 0, 1, 0, 1) = 10", "kinds(0, 0, 1, 2, 1) = 4",
                "kinds(0, 0, 1, 4, 1) = 16", "kinds(0, 0, 1, 6, 1) = 32", "kinds(0, 0, 1, 8, 1) = 0", "kinds(0, 0, 1, 0, 2) = 0");
        // Of several pairs each has its own set.
        S.run("read(m047a;-;s0b-) = 1", "lay(0, 1, 1, 4, 144, 0, 1, 7, 144, 0, 17, 7, 17, 10)", "kinds(0, 0, 1, 0, 2) = 10",
                "kinds(0, 0, 1, 2, 2) = 32", "kinds(0, 0, 1, 2, 1) = 58", "kinds(0, 0, 1, 0, 3) = 0", "kinds(0, 0, 1, 6, 2) = 42",
                "kinds(0, 0, 1, 8, 1) = 42", "kinds(0, 0, 1, 10, 1) = 4", "kinds(0, 0, 1, 0, 5) = 0");
        // By the singer's own range, and not by its kind.
        S.run("read(m047a;-;d5b-,h06-,f00-) = 3", "lay(0, 1, 1, 7, 1, 4, 1, 12)", "kinds(0, 0, 1, 0, 1) = 42", "kinds(1, 0, 1, 2, 1) = 14",
                "kinds(1, 0, 1, 4, 1) = 48", "kinds(2, 0, 1, 4, 1) = 62");
        // Tired by 8, and where another stands who would sing it first.
        S.run("read(m06;0;s0b0,s0b0) = 2", "4 x hour() = 1", "lay(0, 1, 1, 6)", "kinds(0, 0, 1, 0, 1) = 14", "kinds(1, 0, 1, 0, 1) = 14");
    }

    private static void kindsOrder() {
        S.sentence(29, "of several the first that a call names");
        S.run("lay(0, 1, 4096, 99)", "kinds(0, 0, 1, 0, 1) = BAD", "kinds(0, 1, 1, 0, 1) = BAD", OPEN, "kinds(0, 0, 1, 0, 1) = NOT",
                "kinds(1, 0, 1, 0, 1) = BAD", "kinds(0, 0, 1, 0, 0) = BAD", "kinds(0, 0, 1, 0, 7) = BAD", "kinds(1, 1, 1, 5, 1) = BAD",
                "kinds(0, 1, 1, 5, 7) = BAD", "kinds(0, 0, 0, 5, 7) = BAD", "kinds(0, 4, 1, 5, 1) = BAD", "kinds(0, 1, 4, 5, 1) = BAD",
                "kinds(0, 1, 1, 0, 1) = NULL", "kinds(0, 1, 3, -1, 6) = NULL", "kinds(0, 0, 0, 0, 1) = CAST", "kinds(0, 0, 2, -1, 6) = CAST",
                "kinds(0, 0, 1, 1, 1) = INDEX", "kinds(0, 0, 1, 0, 2) = INDEX");
    }

    private static void countBounds() {
        S.sentence(30, "(but 8: 0 without a VALLEY). BAD.");
        S.run("count(-1) = BAD", "count(0) = 0", "count(8) = 0", "count(9) = BAD", "count(MIN) = BAD", "count(MAX) = BAD", "feed(109) = 1",
                "count(8) = 1", "count(0) = 0", "count(1) = 0", "count(2) = 0", "count(3) = 0", "count(4) = 0", "count(5) = 0", "count(6) = 0",
                "count(7) = 0");
        S.run(FIVE, "count(-1) = BAD", "count(0) = 5", "count(1) = 4", "count(2) = 2", "count(3) = 0", "count(4) = 0", "count(5) = 3",
                "count(6) = 0", "count(7) = 0", "count(8) = 0", "count(9) = BAD");
        S.sentence(30, "0 SINGERS, 1 FIELDS, 2 SHAPES");
        S.run("read(m01;-;s00-) = 1", "count(0) = 1", "count(1) = 1", "count(2) = 1");
        S.run("read(m01,02,03,04;-,-,-,-,-;s00-,s00-,s00-,s00-,s00-) = 5", "count(0) = 5", "count(1) = 5", "count(2) = 4");
    }

    private static void countSets() {
        S.sentence(30, "5 FIELDS that have THE CHORD, as a set, 6 FIELDS in which nothing is MISSING of THE CHORD, as a set");
        S.run("read(m01;-,02,0,01,0123456789ab;s0b2) = 1", "count(5) = 12", "count(6) = 8");
        S.run("read(m01;01,12,23,34,45;s00-) = 1", "count(5) = 31", "count(6) = 31");
        S.run("read(m01;-,02;s00-) = 1", "count(5) = 0", "count(6) = 0");
        S.run("read(m01;0,0,0,0,0;s0b0) = 1", "count(5) = 31", "count(6) = 0", "sound(4, 1) = 1", "count(6) = 16", "sound(4, 2) = 1",
                "count(5) = 15", "count(6) = 0");
    }

    private static void countRound() {
        S.sentence(30, "3 the HOUR, 4 how much all are TIRED together");
        S.run("read(m01;0,0,0,0,0;h0b0,h0b1,h0b2,h0b3,h0b4) = 5", "3 x hour() = 31", "count(3) = 3", "count(4) = 45", "3 x hour()",
                "count(3) = 6", "count(4) = 50", "hour() = 0", "count(4) = 45");
        S.sentence(30, "7 how many ACTS can be undone");
        S.run("read(m01;-;s0b-) = 1", "23 x sound(0, 0)", "count(7) = 23", "sound(0, 0) = 0", "count(7) = 24", "sound(0, 0) = 1",
                "count(7) = 24", "undo() = 23", "count(7) = 23");
        S.sentence(30, "8 bytes of THE TAPE");
        S.run("129 x feed(1)", "count(8) = 129", "feed(1) = 130", "count(8) = 130", "feed(1) = FULL", "count(8) = 130", "valley() = FAULT 0",
                "count(8) = 0");
        S.run("read(m01;-;s0b-) = 1", "count(8) = 0", "feed(1) = 1", "count(8) = 1");
    }
}
