/** Promises 1 to 8: what is told. */
public final class ToldTest {
    private static final Check CHECK = new Check("ToldTest");
    private static final int MIN = Integer.MIN_VALUE;
    private static final int MAX = Integer.MAX_VALUE;

    public static void main(String[] args) {
        newObject();
        feed();
        valleyFaults();
        valleyRead();
        valleyStays();
        shape();
        field();
        singer();
        as();
        chord();
        chordOrder();
        CHECK.end();
    }

    private static void newObject() {
        CHECK.promise(1);
        MissingNote x = new MissingNote();
        for (int what = 0; what <= 8; what++) {
            CHECK.due("count(" + what + ")", x.count(what), 0);
        }
        CHECK.due("hour()", x.hour(), MissingNote.NOT);
        CHECK.due("undo()", x.undo(), MissingNote.NONE);
        for (int k = 0; k < 2; k++) {
            CHECK.due("image(" + k + ")", x.image(k), MissingNote.NOT);
            CHECK.due("restore(" + k + ")", x.restore(k), MissingNote.NOT);
        }
        for (int sheet = 0; sheet < 4; sheet++) {
            CHECK.due("drop(" + sheet + ")", x.drop(sheet), MissingNote.NULL);
        }
        CHECK.due("ahead(1, 0)", x.ahead(1, 0), MissingNote.NOT);
        CHECK.due("stands(-1)", x.stands(-1), MissingNote.NOT);
        CHECK.due("decades(1, 1, 1)", x.decades(1, 1, 1), MissingNote.NOT);
    }

    private static void feed() {
        CHECK.promise(2);
        MissingNote x = new MissingNote();
        CHECK.due("feed(0)", x.feed(0), 1);
        CHECK.due("feed(255)", x.feed(255), 2);
        for (int bad : new int[] {-1, 256, MIN, MAX}) {
            CHECK.due("feed(" + bad + ")", x.feed(bad), MissingNote.BAD);
        }
        CHECK.due("count(8)", x.count(8), 2);
        for (int k = 3; k <= 130; k++) {
            CHECK.due("feed(65), number " + k, x.feed(65), k);
        }
        CHECK.due("feed(65), number 131", x.feed(65), MissingNote.FULL);
        CHECK.due("feed(256) on a full tape", x.feed(256), MissingNote.BAD);
        CHECK.due("count(8)", x.count(8), 130);
        CHECK.due("valley()", x.valley(), -100);
        CHECK.due("feed(65) behind a fault", x.feed(65), 1);
    }

    private static void valleyFaults() {
        CHECK.promise(3);
        fault("", 0);
        fault("M01;-;s000", 0);
        fault("01;-;s000", 0);
        fault("m", 1);
        fault("m-", 1);
        fault("m1", 1);
        fault("ma", 1);
        fault("m;", 1);
        fault("m0", 2);
        fault("m00", 2);
        fault("m0;-;s000", 2);
        fault("m0,01;-;s000", 2);
        fault("m0c", 2);
        fault("m0A", 2);
        fault("m01", 3);
        fault("m011", 3);
        fault("m010", 3);
        fault("m0ba", 3);
        fault("m01 ", 3);
        fault("m01-", 3);
        fault("m01\u0000", 3);
        fault("m01\u00ff", 3);
        fault("m01234", 6);
        fault("m012345", 6);
        fault("m012344", 6);
        fault("m01234;", 7);
        fault("m01,", 4);
        fault("m01,;", 4);
        fault("m01,1", 4);
        fault("m01,0;", 5);
        fault("m01,02,03,04,05;-;s000", 12);
        fault("m01,02,03,04", 12);
        fault("m01;", 4);
        fault("m01;;", 4);
        fault("m01;,", 4);
        fault("m01;s", 4);
        fault("m01;0", 5);
        fault("m01;00", 5);
        fault("m01;ba", 5);
        fault("m01;-0", 5);
        fault("m01;0-", 5);
        fault("m01;--", 5);
        fault("m01;-,", 6);
        fault("m01;-,;", 6);
        fault("m01;0123456789abb;", 16);
        fault("m01;0,1,2,3,4,5;s000", 13);
        fault("m01;-;", 6);
        fault("m01;-;;", 6);
        fault("m01;-;S", 6);
        fault("m01;-;p", 6);
        fault("m01;-;s", 7);
        fault("m01;-;s-", 7);
        fault("m01;-;sc", 7);
        fault("m01;-;s1", 8);
        fault("m01;-;s10", 8);
        fault("m01;-;sba", 8);
        fault("m01;-;s1-", 8);
        fault("m01;-;s11", 9);
        fault("m01;-;s111", 9);
        fault("m01;-,-;s112", 11);
        fault("m01;-;s11a", 9);
        fault("m01;-;s11,", 9);
        fault("m01;-;s110,", 11);
        fault("m01;-;s110;", 10);
        fault("m01;-;s110s", 10);
        fault("m01;-;s1100", 10);
        fault("m01;-;s110\n", 10);
        fault("m01;-;s000,s000,s000,s000,s000,s000", 30);
        fault("m01;-;s000,s000,s000,s000,s000;", 30);
    }

    private static void fault(String text, int place) {
        MissingNote x = new MissingNote();
        CHECK.due("valley() of \"" + text + "\"", Check.read(x, text), -100 - place);
        CHECK.due("count(8) behind \"" + text + "\"", x.count(8), 0);
        CHECK.due("count(0) behind \"" + text + "\"", x.count(0), 0);
    }

    private static void valleyRead() {
        CHECK.promise(3);
        MissingNote x = new MissingNote();
        CHECK.due("the least valley", Check.read(x, "m01;-;s00-"), 1);
        CHECK.due("count(8)", x.count(8), 0);
        String all = "0123456789ab";
        String longest = "m01234,06789,0789a,089ab;" + all + "," + all + "," + all + "," + all + "," + all
                + ";s0b0,h1a1,t292,d383,f474";
        CHECK.due("the longest valley", Check.read(x, longest), 5);
        CHECK.due("count(1)", x.count(1), 5);
        CHECK.due("count(2)", x.count(2), 4);
        CHECK.due("field(4, 0)", x.field(4, 0), 4095);
        CHECK.due("shape(3)", x.shape(3), 1 + 256 + 512 + 1024 + 2048);
        CHECK.due("fewer again", Check.read(x, "m0b;b,-;sbb1,f00-"), 2);
        CHECK.due("count(0)", x.count(0), 2);
        CHECK.due("count(1)", x.count(1), 2);
        CHECK.due("count(2)", x.count(2), 1);
        CHECK.due("field(2, 0)", x.field(2, 0), MissingNote.BAD);
        CHECK.due("shape(1)", x.shape(1), MissingNote.BAD);
        CHECK.due("singer(2, 0)", x.singer(2, 0), MissingNote.BAD);
        CHECK.due("nothing of the tape before is read", Check.read(x, "m0b"), -103);
        CHECK.due("nothing of the tape before is read", Check.read(x, "m0b;b,-;sbb"), -111);
    }

    private static void valleyStays() {
        CHECK.promise(3);
        MissingNote x = Check.valley("m047;04;s0b0");
        x.hour();
        x.hour();
        x.image(1);
        Check.lay(x, 2, 3, 77, 78);
        CHECK.due("a fault", Check.read(x, "m047;04;x"), -108);
        CHECK.due("count(3) behind a fault", x.count(3), 2);
        CHECK.due("count(4) behind a fault", x.count(4), 4);
        CHECK.due("count(7) behind a fault", x.count(7), 2);
        CHECK.due("field(0, 0) behind a fault", x.field(0, 0), 17);
        x.ahead(9, 1);
        CHECK.due("another valley", Check.read(x, "m037;03;h0b0,d0b-"), 2);
        CHECK.due("count(3)", x.count(3), 0);
        CHECK.due("count(4)", x.count(4), 0);
        CHECK.due("count(7)", x.count(7), 0);
        CHECK.due("undo()", x.undo(), MissingNote.NONE);
        CHECK.due("chord(17, 1)", x.chord(17, 1), 9);
        CHECK.due("drop(2)", x.drop(2), 2);
        CHECK.due("restore(1)", x.restore(1), 2);
        CHECK.due("count(4) of the image", x.count(4), 4);
        CHECK.due("chord(17, 1) of the image", x.chord(17, 1), 0);
    }

    private static void shape() {
        CHECK.promise(4);
        MissingNote x = Check.valley("m047,0b;-;s00-");
        CHECK.due("shape(0)", x.shape(0), 145);
        CHECK.due("shape(1)", x.shape(1), 2049);
        for (int bad : new int[] {2, -1, MIN, MAX}) {
            CHECK.due("shape(" + bad + ")", x.shape(bad), MissingNote.BAD);
        }
        CHECK.due("shape(0), no valley", new MissingNote().shape(0), MissingNote.BAD);
    }

    private static void field() {
        CHECK.promise(5);
        MissingNote x = Check.valley("m047,037;47,3b,-,012,037;s0b0,s0b1,s0b0,s0b-");
        int[][] due = {
            {144, 0, 0, 1, 5},
            {2056, 0, 11, 64, 2},
            {0, -4, -4, 0, 0},
            {7, -4, -4, 0, 0},
            {137, 1, 0, 0, 0},
        };
        for (int field = 0; field < 5; field++) {
            for (int what = 0; what < 5; what++) {
                CHECK.due("field(" + field + ", " + what + ")", x.field(field, what), due[field][what]);
            }
        }
        for (int bad : new int[] {5, -1, MIN, MAX}) {
            CHECK.due("field(" + bad + ", 0)", x.field(bad, 0), MissingNote.BAD);
            CHECK.due("field(0, " + bad + ")", x.field(0, bad), MissingNote.BAD);
        }
        CHECK.due("field(0, 0), no valley", new MissingNote().field(0, 0), MissingNote.BAD);
    }

    private static void singer() {
        CHECK.promise(6);
        MissingNote x = Check.valley("m01;0,-;s0b0,h1a1,t99-,d0b1,f3b0");
        int[][] due = {{1, 0, 11, 0, 0}, {2, 1, 10, 0, 1}, {3, 9, 9, 0, -4}, {4, 0, 11, 0, 1}, {5, 3, 11, 0, 0}};
        for (int singer = 0; singer < 5; singer++) {
            for (int what = 0; what < 5; what++) {
                CHECK.due("singer(" + singer + ", " + what + ")", x.singer(singer, what), due[singer][what]);
            }
        }
        x.hour();
        CHECK.due("singer(0, 3) behind an hour", x.singer(0, 3), 2);
        for (int bad : new int[] {5, -1, MIN, MAX}) {
            CHECK.due("singer(" + bad + ", 0)", x.singer(bad, 0), MissingNote.BAD);
            CHECK.due("singer(0, " + bad + ")", x.singer(0, bad), MissingNote.BAD);
        }
        CHECK.due("singer(0, 0), no valley", new MissingNote().singer(0, 0), MissingNote.BAD);
    }

    private static void as() {
        CHECK.promise(7);
        MissingNote x = Check.valley("m01;-;s00-,h00-,t00-,d00-,f00-");
        // Rows: SINGER, HIGH, THIRD, DRONE, FARMER; columns: taken as PERSON .. FARMER.
        String[] is = {"110000", "111000", "110100", "100010", "100011"};
        for (int singer = 0; singer < 5; singer++) {
            for (int kind = 0; kind < 6; kind++) {
                int due = is[singer].charAt(kind) == '1' ? singer : MissingNote.CAST;
                CHECK.due("as(" + singer + ", " + kind + ")", x.as(singer, kind), due);
            }
        }
        CHECK.due("as(0, 6)", x.as(0, 6), MissingNote.BAD);
        CHECK.due("as(0, -1)", x.as(0, -1), MissingNote.BAD);
        CHECK.due("as(5, 0)", x.as(5, 0), MissingNote.BAD);
        CHECK.due("as(-1, 0)", x.as(-1, 0), MissingNote.BAD);
        CHECK.due("as(0, 0), no valley", new MissingNote().as(0, 0), MissingNote.BAD);
    }

    private static void chord() {
        CHECK.promise(8);
        MissingNote x = Check.valley("m047,037,047a;-;s00-");
        int[][] due = {
            {0, -4, -4, 0},
            {1, 0, 0, 144},
            {2048, 0, 4, 16 + 256},
            {1 + 8, 0, 8, 256},
            {1 + 8 + 128, 1, 0, 0},
            {1 + 1024, 2, 0, 16 + 128},
            {1 + 16 + 128 + 1024, 2, 0, 0},
            {1 + 2, -4, -4, 0},
            {4095, -4, -4, 0},
        };
        for (int[] row : due) {
            for (int what = 0; what < 3; what++) {
                CHECK.due("chord(" + row[0] + ", " + what + ")", x.chord(row[0], what), row[what + 1]);
            }
        }
        for (int bad : new int[] {-1, 4096, MIN, MAX}) {
            CHECK.due("chord(" + bad + ", 0)", x.chord(bad, 0), MissingNote.BAD);
        }
        for (int bad : new int[] {-1, 3, MIN, MAX}) {
            CHECK.due("chord(1, " + bad + ")", x.chord(1, bad), MissingNote.BAD);
        }
        CHECK.due("chord(1, 0), no valley", new MissingNote().chord(1, 0), MissingNote.BAD);
    }

    /** The fewest pitches go ahead of the first shape, that ahead of the least root. */
    private static void chordOrder() {
        CHECK.promise(8);
        MissingNote x = Check.valley("m01234,06,04,06;-;s00-");
        CHECK.due("chord(1, 0), fewest first", x.chord(1, 0), 1);
        CHECK.due("chord(64, 1), least root", x.chord(64, 1), 0);
        CHECK.due("chord(64, 2)", x.chord(64, 2), 1);
        CHECK.due("chord(17, 0)", x.chord(17, 0), 2);
        CHECK.due("chord(17, 1)", x.chord(17, 1), 0);
        CHECK.due("chord(3, 0)", x.chord(3, 0), 0);
        CHECK.due("chord(3, 1)", x.chord(3, 1), 0);
        CHECK.due("chord(2049, 1), round and round", x.chord(2049, 1), 8);
    }
}
