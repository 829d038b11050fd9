/** Promises 23 to 30: sheets, and what is counted. */
public final class SheetsTest {
    private static final Check CHECK = new Check("SheetsTest");
    private static final int MIN = Integer.MIN_VALUE;
    private static final int MAX = Integer.MAX_VALUE;
    private static final String FIVE = "m047,037;04,0,-,012;s0b0,h0b1,t0b1,d001,f0b-";

    public static void main(String[] args) {
        sheet();
        drop();
        item();
        copy();
        log();
        sounded();
        hear();
        soundedRefused();
        kinds();
        kindsRefused();
        count();
        CHECK.end();
    }

    /** One singer, who sings p where the pitch 6 off it sounds alone. */
    private static final String OPEN = "m06;-;s0b-";

    /**
     * Tests that a sheet holds these items (0 to 12) and no more. No call only reads an item, so each is copied to
     * sheet 3 as what the singer of OPEN sang: the least set by which it was sung tells it.
     */
    private static void row(MissingNote x, int sheet, int... items) {
        int lane = laneOf(x, sheet);
        x.sheet(3, lane, 2);
        for (int i = 0; i < items.length; i++) {
            x.copy(sheet, i, 3, 1, 1);
            int due = items[i] == 12 ? 3 : 1 << (items[i] + 6) % 12;
            CHECK.due("the set that tells item " + i + " of sheet " + sheet, x.sounded(3, lane, 0, 1, 1), due);
        }
        CHECK.due("behind the row", x.copy(sheet, 0, sheet, 0, items.length + 1), MissingNote.INDEX);
    }

    private static int laneOf(MissingNote x, int sheet) {
        int lane = 0;
        while (lane < 3 && x.item(sheet, lane, -1, 0) == MissingNote.CAST) {
            lane++;
        }
        return lane;
    }

    private static void sheet() {
        CHECK.promise(23);
        MissingNote x = new MissingNote();
        CHECK.due("sheet(0, 0, 0)", x.sheet(0, 0, 0), 0);
        CHECK.due("sheet(3, 3, 24)", x.sheet(3, 3, 24), 24);
        CHECK.due("item(0, 0, 0, 1) of an empty row", x.item(0, 0, 0, 1), MissingNote.INDEX);
        for (int bad : new int[] {4, -1, MIN, MAX}) {
            CHECK.due("sheet(" + bad + ", 0, 1)", x.sheet(bad, 0, 1), MissingNote.BAD);
            CHECK.due("sheet(0, " + bad + ", 1)", x.sheet(0, bad, 1), MissingNote.BAD);
            CHECK.due("sheet(" + bad + ", 0, -1)", x.sheet(bad, 0, -1), MissingNote.BAD);
            CHECK.due("sheet(0, " + bad + ", -1)", x.sheet(0, bad, -1), MissingNote.BAD);
        }
        CHECK.due("sheet(3, 0, 25)", x.sheet(3, 0, 25), MissingNote.BAD);
        CHECK.due("sheet(3, 0, MAX)", x.sheet(3, 0, MAX), MissingNote.BAD);
        CHECK.due("sheet(3, 0, -1)", x.sheet(3, 0, -1), MissingNote.SIZE);
        CHECK.due("sheet(3, 0, MIN)", x.sheet(3, 0, MIN), MissingNote.SIZE);
        CHECK.due("drop(3), it stayed", x.drop(3), 24);
        x = Check.valley(OPEN);
        Check.lay(x, 1, 2, 5, 6, 7);
        CHECK.due("sheet(1, 2, 2) again", x.sheet(1, 2, 2), 2);
        row(x, 1, 0, 0);
        CHECK.due("sheet(1, 1, 3)", x.sheet(1, 1, 3), 3);
        CHECK.due("the lane before", x.item(1, 2, 0, 0), MissingNote.CAST);
        row(x, 1, 0, 0, 0);
    }

    private static void drop() {
        CHECK.promise(24);
        MissingNote x = new MissingNote();
        x.sheet(2, 1, 0);
        x.sheet(1, 0, 7);
        CHECK.due("drop(2)", x.drop(2), 0);
        CHECK.due("drop(2) again", x.drop(2), MissingNote.NULL);
        CHECK.due("item of nothing", x.item(2, 1, 0, 0), MissingNote.NULL);
        CHECK.due("drop(1)", x.drop(1), 7);
        CHECK.due("drop(1) again", x.drop(1), MissingNote.NULL);
        for (int bad : new int[] {4, -1, MIN, MAX}) {
            CHECK.due("drop(" + bad + ")", x.drop(bad), MissingNote.BAD);
        }
    }

    private static void item() {
        CHECK.promise(25);
        MissingNote x = new MissingNote();
        long[] values = {0, 1, -1, 127, 128, 255, 256, -129, 32767, 32768, 65535, 65536, 2147483647L, 2147483648L,
            4294967295L, 4294967296L, Long.MAX_VALUE, Long.MIN_VALUE, 0x123456789abcdef0L};
        for (int lane = 0; lane < 4; lane++) {
            x.sheet(lane, lane, 3);
            int away = 64 - (8 << lane);
            for (long v : values) {
                CHECK.due("item of lane " + lane, x.item(lane, lane, 2, v), v << away >> away);
            }
            CHECK.due("item(.., 3, 0)", x.item(lane, lane, 3, 0), MissingNote.INDEX);
            CHECK.due("item(.., -1, 0)", x.item(lane, lane, -1, 0), MissingNote.INDEX);
            CHECK.due("item(.., MIN, 0)", x.item(lane, lane, MIN, 0), MissingNote.INDEX);
            CHECK.due("item(.., MAX, 0)", x.item(lane, lane, MAX, 0), MissingNote.INDEX);
            CHECK.due("another lane, ahead of INDEX", x.item(lane, (lane + 1) % 4, 3, 0), MissingNote.CAST);
        }
        x.drop(1);
        CHECK.due("nothing, ahead of CAST", x.item(1, 2, -1, 0), MissingNote.NULL);
        for (int bad : new int[] {4, -1, MIN, MAX}) {
            CHECK.due("item(" + bad + ", 0, 0, 0)", x.item(bad, 0, 0, 0), MissingNote.BAD);
            CHECK.due("item(1, " + bad + ", 0, 0)", x.item(1, bad, 0, 0), MissingNote.BAD);
        }
    }

    private static void copy() {
        CHECK.promise(26);
        MissingNote x = Check.valley(OPEN);
        Check.lay(x, 0, 1, 1, 2, 3, 4, 5);
        CHECK.due("copy up", x.copy(0, 0, 0, 1, 4), 4);
        row(x, 0, 1, 1, 2, 3, 4);
        CHECK.due("copy down", x.copy(0, 2, 0, 0, 3), 3);
        row(x, 0, 2, 3, 4, 3, 4);
        Check.lay(x, 1, 1, 7, 8);
        CHECK.due("copy to another", x.copy(1, 0, 0, 3, 2), 2);
        row(x, 0, 2, 3, 4, 7, 8);
        row(x, 1, 7, 8);
        CHECK.due("copy none at the end", x.copy(1, 2, 0, 5, 0), 0);
        int[][] beyond = {{3, 0, 0}, {-1, 0, 0}, {0, 6, 0}, {0, -1, 0}, {0, 0, 3}, {1, 0, 2}, {0, 4, 2}, {0, 0, -1},
            {0, 0, MIN}, {0, 0, MAX}, {MAX, 0, 1}, {0, MAX, 1}, {MAX, MAX, MAX}, {MIN, MIN, MIN}};
        for (int[] k : beyond) {
            CHECK.due("copy(1, " + k[0] + ", 0, " + k[1] + ", " + k[2] + ")", x.copy(1, k[0], 0, k[1], k[2]), MissingNote.INDEX);
        }
        row(x, 0, 2, 3, 4, 7, 8);
        x.sheet(2, 2, 4);
        CHECK.due("unlike lanes, ahead of INDEX", x.copy(0, 0, 2, 0, 9), MissingNote.CAST);
        x.drop(2);
        CHECK.due("to nothing", x.copy(0, 0, 2, 0, -1), MissingNote.NULL);
        CHECK.due("from nothing", x.copy(2, 0, 0, 0, -1), MissingNote.NULL);
        for (int bad : new int[] {4, -1, MIN, MAX}) {
            CHECK.due("copy from " + bad, x.copy(bad, 0, 2, 0, 1), MissingNote.BAD);
            CHECK.due("copy to " + bad, x.copy(2, 0, bad, 0, 1), MissingNote.BAD);
        }
    }

    private static void log() {
        CHECK.promise(27);
        MissingNote x = Check.valley(FIVE);
        x.sheet(0, 0, 7);
        CHECK.due("log(0, 0, 2)", x.log(0, 0, 2), 5);
        Check.read(x, OPEN);
        row(x, 0, 0, 0, 7, 7, 4, 12, 12);
        Check.read(x, FIVE);
        for (int bad : new int[] {3, -1, MIN, MAX}) {
            CHECK.due("log(0, 0, " + bad + ")", x.log(0, 0, bad), MissingNote.INDEX);
        }
        CHECK.due("another lane, ahead of INDEX", x.log(0, 1, 3), MissingNote.CAST);
        CHECK.due("nothing, ahead of CAST", x.log(1, 1, 3), MissingNote.NULL);
        for (int bad : new int[] {4, -1, MIN, MAX}) {
            CHECK.due("log(" + bad + ", 0, 0)", x.log(bad, 0, 0), MissingNote.BAD);
            CHECK.due("log(1, " + bad + ", 0)", x.log(1, bad, 0), MissingNote.BAD);
        }
        CHECK.due("log(1, 1, 0), no valley", new MissingNote().log(1, 1, 0), MissingNote.BAD);
        Check.read(x, OPEN);
        row(x, 0, 0, 0, 7, 7, 4, 12, 12);
    }

    /** With the one shape 0 6, who may sing all sings something by a pitch alone, and nothing by all other sets. */
    private static void sounded() {
        CHECK.promise(28);
        MissingNote x = Check.valley("m06;-;s0b-,d0b-");
        found(x, 1, 2, 0, 7);
        found(x, 4083, 3, 0, 12);
        found(x, 1, 512, 1, 3);
        found(x, 4089, 1, 1, 12);
        found(x, 0, MissingNote.NONE, 1, 7);
        found(x, 4083, 3, 0, 12, 1, 12);
        found(x, 1, 2, 0, 7, 1, 12);
        found(x, 0, MissingNote.NONE, 0, 1, 1, 12);
        found(x, 1, 128, 0, 1, 1, 1, 0, 1, 1, 1, 0, 1, 1, 1);
        // Tired or not, and wherever they stand.
        x = Check.valley("m06;0;s0b0,d0b0");
        for (int k = 0; k < 4; k++) {
            x.hour();
        }
        CHECK.due("singer(0, 3)", x.singer(0, 3), 8);
        found(x, 1, 2, 0, 7, 1, 12);
    }

    private static void found(MissingNote x, int many, int least, long... pairs) {
        for (int lane = 0; lane < 4; lane++) {
            x.sheet(0, lane, 2 + pairs.length);
            for (int k = 0; k < pairs.length; k++) {
                x.item(0, lane, 1 + k, pairs[k]);
            }
            CHECK.due("sounded, how many", x.sounded(0, lane, 1, pairs.length / 2, 0), many);
            CHECK.due("sounded, the least", x.sounded(0, lane, 1, pairs.length / 2, 1), least);
        }
    }

    private static void hear() {
        CHECK.promise(28);
        MissingNote x = Check.valley("m06;-;d0b-,s0b-,s0b-");
        Check.lay(x, 0, 2, 0, 12, 1, 1, 0, 1);
        CHECK.due("the second parts more", x.sounded(0, 2, 0, 1, 2), 1);
        CHECK.due("all alike, the first", x.sounded(0, 2, 2, 1, 2), 0);
        x.item(0, 2, 4, 0);
        x.item(0, 2, 5, 7);
        CHECK.due("there is no set", x.sounded(0, 2, 4, 1, 2), MissingNote.NONE);
        // A lesser root always goes ahead of 11, so this drone sings by no set, and all 4095 are one part.
        x = Check.valley("m01;-;dbb-");
        found(x, 4095, 1, 0, 12);
        CHECK.due("all sets in one part", x.sounded(0, 3, 1, 1, 2), 0);
    }

    private static void soundedRefused() {
        CHECK.promise(28);
        MissingNote x = Check.valley("m06;-;s0b-,d0b-");
        Check.lay(x, 0, 3, 0, 7, 1, 12, 2, 0, 0, 13, -1, 0, 0, -1);
        CHECK.due("two pairs that hold", x.sounded(0, 3, 0, 2, 0), 1);
        CHECK.due("no such singer", x.sounded(0, 3, 0, 3, 0), MissingNote.NOT);
        CHECK.due("no such singer", x.sounded(0, 3, 4, 1, 1), MissingNote.NOT);
        CHECK.due("no such pitch", x.sounded(0, 3, 6, 1, 2), MissingNote.NOT);
        CHECK.due("a singer below 0", x.sounded(0, 3, 8, 1, 0), MissingNote.NOT);
        CHECK.due("a pitch below 0", x.sounded(0, 3, 10, 1, 0), MissingNote.NOT);
        x.item(0, 3, 0, 4294967296L);
        CHECK.due("a long beyond ints", x.sounded(0, 3, 0, 1, 0), MissingNote.NOT);
        x.item(0, 3, 0, 0);
        x.item(0, 3, 1, 4294967296L + 7);
        CHECK.due("a long beyond ints", x.sounded(0, 3, 0, 1, 0), MissingNote.NOT);
        CHECK.due("six pairs reach the end", x.sounded(0, 3, 0, 6, 0), MissingNote.NOT);
        CHECK.due("INDEX ahead of NOT", x.sounded(0, 3, 1, 6, 0), MissingNote.INDEX);
        for (int bad : new int[] {-1, 11, 12, MIN, MAX}) {
            CHECK.due("sounded from " + bad, x.sounded(0, 3, bad, 1, 0), MissingNote.INDEX);
        }
        CHECK.due("CAST ahead of INDEX", x.sounded(0, 2, -1, 1, 0), MissingNote.CAST);
        CHECK.due("NULL ahead of CAST", x.sounded(1, 2, -1, 1, 0), MissingNote.NULL);
        for (int bad : new int[] {-1, 7, MIN, MAX}) {
            CHECK.due("BAD sheet", x.sounded(bad, 0, 0, 1, 0), MissingNote.BAD);
            CHECK.due("BAD lane", x.sounded(1, bad, 0, 1, 0), MissingNote.BAD);
            CHECK.due("BAD n", x.sounded(1, 2, 0, bad, 0), MissingNote.BAD);
            CHECK.due("BAD what", x.sounded(1, 2, 0, 1, bad), MissingNote.BAD);
        }
        CHECK.due("BAD n", x.sounded(0, 3, 0, 0, 0), MissingNote.BAD);
        CHECK.due("BAD what", x.sounded(0, 3, 0, 1, 3), MissingNote.BAD);
        CHECK.due("no valley", new MissingNote().sounded(0, 0, 0, 1, 0), MissingNote.BAD);
    }

    private static void kinds() {
        CHECK.promise(29);
        MissingNote x = Check.valley("m047a;-;s0b-,f5b-");
        may(x, 0, 2 + 8, 1, 4);
        may(x, 0, 4, 1, 10);
        may(x, 0, 32, 1, 7);
        may(x, 0, 16, 1, 12);
        may(x, 0, 0, 1, 0);
        may(x, 0, 62, 0, 12);
        may(x, 0, 62, 4095, 12);
        may(x, 0, 2 + 8 + 16 + 32, 144, 0);
        may(x, 0, 2 + 8, 1, 4, 144, 0);
        may(x, 0, 32, 144, 0, 1, 7, 144, 0, 1, 7, 0, 12, 4095, 12);
        may(x, 1, 2 + 8 + 32, 1, 7);
        may(x, 1, 16 + 32, 144, 12);
        may(x, 1, 2 + 4 + 8, 144, 10);
    }

    private static void may(MissingNote x, int singer, int due, long... pairs) {
        for (int lane = 1; lane < 4; lane++) {
            x.sheet(0, lane, 1 + pairs.length);
            for (int k = 0; k < pairs.length; k++) {
                x.item(0, lane, 1 + k, pairs[k]);
            }
            CHECK.due("kinds", x.kinds(singer, 0, lane, 1, pairs.length / 2), due);
        }
    }

    private static void kindsRefused() {
        CHECK.promise(29);
        MissingNote x = Check.valley("m047a;-;s0b-");
        Check.lay(x, 0, 3, 1, 4, 4096, 4, -1, 4, 1, 13, 1, -1);
        CHECK.due("a pair that holds", x.kinds(0, 0, 3, 0, 1), 10);
        for (int i = 2; i <= 8; i += 2) {
            CHECK.due("no set, no pitch", x.kinds(0, 0, 3, i, 1), MissingNote.NOT);
        }
        CHECK.due("behind one that holds", x.kinds(0, 0, 3, 0, 2), MissingNote.NOT);
        x.item(0, 3, 0, 4294967297L);
        CHECK.due("a long beyond ints", x.kinds(0, 0, 3, 0, 1), MissingNote.NOT);
        for (int bad : new int[] {-1, 9, 10, MIN, MAX}) {
            CHECK.due("kinds from " + bad, x.kinds(0, 0, 3, bad, 1), MissingNote.INDEX);
        }
        CHECK.due("INDEX ahead of NOT", x.kinds(0, 0, 3, 0, 6), MissingNote.INDEX);
        CHECK.due("CAST ahead of INDEX", x.kinds(0, 0, 1, -1, 1), MissingNote.CAST);
        CHECK.due("NULL ahead of CAST", x.kinds(0, 1, 1, -1, 1), MissingNote.NULL);
        for (int bad : new int[] {-1, 7, MIN, MAX}) {
            CHECK.due("BAD singer", x.kinds(bad, 1, 1, 0, 1), MissingNote.BAD);
            CHECK.due("BAD sheet", x.kinds(0, bad, 1, 0, 1), MissingNote.BAD);
            CHECK.due("BAD lane", x.kinds(0, 1, bad, 0, 1), MissingNote.BAD);
            CHECK.due("BAD n", x.kinds(0, 1, 1, 0, bad), MissingNote.BAD);
        }
        CHECK.due("BAD n", x.kinds(0, 1, 1, 0, 0), MissingNote.BAD);
        CHECK.due("no valley", new MissingNote().kinds(0, 0, 0, 0, 1), MissingNote.BAD);
    }

    private static void count() {
        CHECK.promise(30);
        MissingNote x = Check.valley(FIVE);
        x.hour();
        x.sound(0, 7);
        Check.feed(x, "m0");
        int[] due = {5, 4, 2, 1, 7, 3, 1, 2, 2};
        for (int what = 0; what < due.length; what++) {
            CHECK.due("count(" + what + ")", x.count(what), due[what]);
        }
        for (int bad : new int[] {-1, 9, MIN, MAX}) {
            CHECK.due("count(" + bad + ")", x.count(bad), MissingNote.BAD);
        }
        x = new MissingNote();
        Check.feed(x, "m0");
        for (int what = 0; what < 8; what++) {
            CHECK.due("count(" + what + "), no valley", x.count(what), 0);
        }
        CHECK.due("count(8), no valley", x.count(8), 2);
        CHECK.due("count(9), no valley", x.count(9), MissingNote.BAD);
    }
}
