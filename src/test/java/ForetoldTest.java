/** Promises 15 to 22: what is foretold. */
public final class ForetoldTest {
    private static final Check CHECK = new Check("ForetoldTest");
    private static final int MIN = Integer.MIN_VALUE;
    private static final int MAX = Integer.MAX_VALUE;
    /**
     * Field 0 misses 7, field 1 misses 4 and 7, field 2 is silent, field 3 has no chord.
     * The drone's root sounds already, and the farmer is at home.
     */
    private static final String FIVE = "m047,037;04,0,-,012;s0b0,h0b1,t0b1,d001,f0b-";

    public static void main(String[] args) {
        sings();
        ahead();
        fills();
        stands();
        howls();
        back();
        wind();
        decades();
        nothingChanges();
        CHECK.end();
    }

    private static void sings() {
        CHECK.promise(15);
        MissingNote x = Check.valley(FIVE);
        int[] due = {7, 7, 4, -4, -4};
        for (int singer = 0; singer < 5; singer++) {
            CHECK.due("sings(" + singer + ")", x.sings(singer), due[singer]);
        }
        for (int bad : new int[] {5, -1, MIN, MAX}) {
            CHECK.due("sings(" + bad + ")", x.sings(bad), MissingNote.BAD);
        }
        for (int k = 0; k < 4; k++) {
            x.hour();
        }
        for (int singer = 0; singer < 5; singer++) {
            CHECK.due("sings(" + singer + "), too tired", x.sings(singer), MissingNote.NONE);
        }
        x.send(4, 1);
        CHECK.due("sings(4), a farmer where the root sounds", x.sings(4), 7);
        x.sound(1, 0);
        x.sound(1, 7);
        CHECK.due("sings(4), the drone has taken the root", x.sings(4), MissingNote.NONE);
        x.send(3, -1);
        CHECK.due("sings(4), a farmer where the root misses", x.sings(4), 0);
        CHECK.due("the greatest of all pitches", Check.valley("m0b;0;h0b0").sings(0), 11);
        CHECK.due("the least as the greatest", Check.valley("m01;1;h0b0").sings(0), 0);
        CHECK.due("the greatest in reach", Check.valley("m02479;0;h080").sings(0), 7);
        CHECK.due("the least in reach", Check.valley("m02479;0;s3b0").sings(0), 4);
        CHECK.due("sings(0), no valley", new MissingNote().sings(0), MissingNote.BAD);
    }

    private static void ahead() {
        CHECK.promise(16);
        MissingNote x = Check.valley(FIVE);
        int[] full = {3, 3, 3, 1, 0, 3, 0, 0, 1};
        int[] tired = {7, 14, 21, 24, 21, 28, 25, 22, 25};
        CHECK.due("ahead(0, 1)", x.ahead(0, 1), 0);
        for (int n = 1; n <= full.length; n++) {
            CHECK.due("ahead(" + n + ", 0)", x.ahead(n, 0), full[n - 1]);
            CHECK.due("ahead(" + n + ", 1)", x.ahead(n, 1), tired[n - 1]);
        }
        x.hour();
        CHECK.due("ahead(0, 1) behind an hour", x.ahead(0, 1), 7);
        CHECK.due("ahead(3, 0) behind an hour", x.ahead(3, 0), 1);
        x = Check.valley("m01;0;s11-");
        CHECK.due("ahead(60, 0)", x.ahead(60, 0), 0);
        CHECK.due("ahead(60, 1)", x.ahead(60, 1), 0);
        int[][] bad = {{0, 0}, {61, 0}, {-1, 1}, {61, 1}, {1, 2}, {1, -1}, {MIN, 0}, {MAX, 1}, {1, MIN}, {1, MAX}};
        for (int[] row : bad) {
            CHECK.due("ahead(" + row[0] + ", " + row[1] + ")", x.ahead(row[0], row[1]), MissingNote.BAD);
            CHECK.due("ahead, no valley", new MissingNote().ahead(row[0], row[1]), MissingNote.BAD);
        }
        CHECK.due("ahead(0, 1), no valley", new MissingNote().ahead(0, 1), MissingNote.NOT);
    }

    private static void fills() {
        CHECK.promise(17);
        MissingNote x = Check.valley(FIVE);
        int[] due = {1, 3, -4, -4};
        for (int field = 0; field < 4; field++) {
            CHECK.due("fills(" + field + ")", x.fills(field), due[field]);
        }
        for (int bad : new int[] {4, -1, MIN, MAX}) {
            CHECK.due("fills(" + bad + ")", x.fills(bad), MissingNote.BAD);
        }
        for (int k = 0; k < 4; k++) {
            x.hour();
        }
        CHECK.due("fills(0), by the farmer alone", x.fills(0), 16);
        CHECK.due("fills(1), three are too tired", x.fills(1), MissingNote.NONE);
        CHECK.due("nobody is needed", Check.valley("m047;047;s0b0").fills(0), 0);
        CHECK.due("the first takes what the second could", Check.valley("m047;0;s4b-,s44-,s77-").fills(0), 5);
        CHECK.due("four are needed", Check.valley("m01234;0;d0b0,s0b0,s0b-,s0b0,s0b0").fills(0), 30);
        CHECK.due("fills(0), no valley", new MissingNote().fills(0), MissingNote.BAD);
    }

    private static void stands() {
        CHECK.promise(18);
        MissingNote x = Check.valley(FIVE);
        standsAt(x, 2, 0, 0, 1, 0, 1);
        for (int k = 0; k < 4; k++) {
            x.hour();
        }
        standsAt(x, 1, 0, 0, 0, 0, 0);
        // To sing without filling the field tires for nothing.
        standsAt(Check.valley("m012;0;s110"), 0, MissingNote.NONE);
        standsAt(Check.valley("m01;0;s22-"), 0, 0);
        // A field that is full by itself counts, and the dear one goes where it need not sing.
        standsAt(Check.valley("m047;04,047;h0b-,s0b-"), 2, 1, 0);
        standsAt(Check.valley("m047;04,0;h0b-,s0b-"), 1, MissingNote.NONE, 0);
        standsAt(Check.valley("m047;04,047;s0b-"), 2, 0);
        standsAt(Check.valley("m01;0,0,0,0,0;h0b0,h0b0,h0b0,h0b0,h0b0"), 5, 0, 1, 2, 3, 4);
        for (int bad : new int[] {5, -2, MIN, MAX}) {
            CHECK.due("stands(" + bad + ")", x.stands(bad), MissingNote.BAD);
        }
        CHECK.due("stands(0), no valley", new MissingNote().stands(0), MissingNote.BAD);
        CHECK.due("stands(-2), no valley", new MissingNote().stands(-2), MissingNote.BAD);
        CHECK.due("stands(-1), no valley", new MissingNote().stands(-1), MissingNote.NOT);
    }

    private static void standsAt(MissingNote x, int full, int... places) {
        CHECK.due("stands(-1)", x.stands(-1), full);
        for (int singer = 0; singer < places.length; singer++) {
            CHECK.due("stands(" + singer + ")", x.stands(singer), places[singer]);
        }
    }

    private static void howls() {
        CHECK.promise(19);
        MissingNote x = Check.valley(FIVE);
        int[] due = {3438, 4095 - 1 - howlFree(), 0, 4088};
        for (int field = 0; field < 4; field++) {
            CHECK.due("howls(" + field + ")", x.howls(field), due[field]);
        }
        for (int bad : new int[] {4, -1, MIN, MAX}) {
            CHECK.due("howls(" + bad + ")", x.howls(bad), MissingNote.BAD);
        }
        CHECK.due("howls of a full chord", Check.valley("m047;047;s00-").howls(0), 3950);
        CHECK.due("all but 2, 3 and 4 howl", Check.valley("m01;3;s00-").howls(0), 4095 - 4 - 8 - 16);
        CHECK.due("howls where all sounds", Check.valley("m047;0123456789ab;s00-").howls(0), 0);
        CHECK.due("howls(0), no valley", new MissingNote().howls(0), MissingNote.BAD);
    }

    /** What may sound beside 0 in a chord of three: what is 3, 4, 5, 7, 8 or 9 above it. */
    private static int howlFree() {
        return 1 << 3 | 1 << 4 | 1 << 5 | 1 << 7 | 1 << 8 | 1 << 9;
    }

    private static void back() {
        CHECK.promise(20);
        MissingNote x = Check.valley(FIVE);
        int[] due = {0, 0, -2, 3};
        for (int field = 0; field < 4; field++) {
            CHECK.due("back(" + field + ")", x.back(field), due[field]);
        }
        for (int bad : new int[] {4, -1, MIN, MAX}) {
            CHECK.due("back(" + bad + ")", x.back(bad), MissingNote.BAD);
        }
        CHECK.due("one, not the least", Check.valley("m047;0147;s00-").back(0), 2);
        CHECK.due("three", Check.valley("m06;0123;s00-").back(0), 7);
        CHECK.due("four are too many", Check.valley("m06;01234;s00-").back(0), MissingNote.NONE);
        CHECK.due("three of five", Check.valley("m06;12358;s00-").back(0), 2 + 8 + 32);
        CHECK.due("all sound", Check.valley("m01234;0123456789ab;s00-").back(0), MissingNote.NONE);
        CHECK.due("back(0), no valley", new MissingNote().back(0), MissingNote.BAD);
    }

    private static void wind() {
        CHECK.promise(21);
        MissingNote x = Check.valley(FIVE);
        odds(x, 0, 4, 3, 5);
        odds(x, 0, 0, 1, 1);
        odds(x, 0, 10, 0, 1);
        odds(x, 1, 5, 1, 4);
        odds(x, 1, 3, 49, 100);
        odds(x, 1, 0, 1, 1);
        odds(x, 2, 0, 0, 1);
        odds(x, 3, 5, 0, 1);
        int[][] bad = {{4, 0, 0}, {-1, 0, 0}, {0, -1, 0}, {0, 11, 0}, {2, 11, 1}, {0, 0, 2}, {0, 0, -1}, {MAX, MAX, MAX}, {MIN, 0, 0}};
        for (int[] row : bad) {
            CHECK.due("wind, a bad number", x.wind(row[0], row[1], row[2]), MissingNote.BAD);
        }
        for (int k = 0; k < 3; k++) {
            x.hour();
        }
        odds(x, 1, 0, 0, 1);
        odds(x, 0, 1, 9, 10);
        odds(Check.valley("m047;0;s0b0,s0b0,s0b0"), 0, 2, 112, 125);
        odds(Check.valley("m047;047;s0b0"), 0, 10, 1, 1);
        // Either of the two puts in the 4 that is missing.
        odds(Check.valley("m047;07;s0b0,s440"), 0, 5, 3, 4);
        odds(Check.valley("m01;0;s110,s110,s110,s110,s110"), 0, 9, 40951, 100000);
        CHECK.due("wind(0, 0, 0), no valley", new MissingNote().wind(0, 0, 0), MissingNote.BAD);
    }

    private static void odds(MissingNote x, int field, int q, int above, int below) {
        CHECK.due("wind(" + field + ", " + q + ", 0)", x.wind(field, q, 0), above);
        CHECK.due("wind(" + field + ", " + q + ", 1)", x.wind(field, q, 1), below);
    }

    private static void decades() {
        CHECK.promise(22);
        MissingNote x = Check.valley(FIVE);
        CHECK.due("decades(0, 1, 0)", x.decades(0, 1, 0), 0);
        CHECK.due("decades(0, 1, 1)", x.decades(0, 1, 1), 0);
        CHECK.due("decades(1, 1, 0)", x.decades(1, 1, 0), 2);
        CHECK.due("decades(1, 1, 1)", x.decades(1, 1, 1), 7);
        // X is 282475249: 3 sounds in field 1, which misses 8 then, and the drone is sent to field 3.
        CHECK.due("decades(2, 1, 0)", x.decades(2, 1, 0), 4);
        CHECK.due("decades(2, 1, 1)", x.decades(2, 1, 1), 11);
        // X is 1622650073: 5 in field 1, the high one to field 2; 984943658: 10 in field 2, the high one to field 0;
        // 1144108930: 8 in field 2, the singer, who is tired by 8, to field 3.
        CHECK.due("decades(3, 1, 0)", x.decades(3, 1, 0), 5);
        CHECK.due("decades(3, 1, 1)", x.decades(3, 1, 1), 11);
        CHECK.due("decades(4, 1, 0)", x.decades(4, 1, 0), 6);
        CHECK.due("decades(4, 1, 1)", x.decades(4, 1, 1), 12);
        CHECK.due("decades(5, 1, 0)", x.decades(5, 1, 0), 7);
        CHECK.due("decades(5, 1, 1)", x.decades(5, 1, 1), 14);
        CHECK.due("a farmer is never tired", Check.valley("m047;-;f0b-").decades(60, 999999, 1), 0);
        x.hour();
        CHECK.due("decades(0, 999999, 1)", x.decades(0, 999999, 1), 7);
        int[][] bad = {{-1, 1, 0}, {61, 1, 0}, {1, 0, 0}, {1, 1000000, 0}, {1, 1, 2}, {1, 1, -1}, {MIN, MIN, MIN}, {MAX, 1, 0}};
        for (int[] row : bad) {
            CHECK.due("decades, a bad number", x.decades(row[0], row[1], row[2]), MissingNote.BAD);
            CHECK.due("decades, no valley", new MissingNote().decades(row[0], row[1], row[2]), MissingNote.BAD);
        }
        CHECK.due("decades(0, 1, 0), no valley", new MissingNote().decades(0, 1, 0), MissingNote.NOT);
    }

    private static void nothingChanges() {
        CHECK.promise(22);
        MissingNote x = Check.valley(FIVE);
        x.hour();
        String before = state(x);
        for (int what = 0; what < 2; what++) {
            x.ahead(60, what);
            x.decades(60, 4711, what);
            x.wind(1, 5, what);
            x.stands(what);
            x.sings(what);
            x.fills(what);
            x.howls(what);
            x.back(what);
        }
        CHECK.holds("what is foretold changes nothing", before.equals(state(x)));
    }

    private static String state(MissingNote x) {
        StringBuilder text = new StringBuilder();
        for (int k = 0; k < 9; k++) {
            text.append(x.count(k)).append(' ');
        }
        for (int k = 0; k < 5; k++) {
            for (int what = 0; what < 5; what++) {
                text.append(x.field(k, what)).append(' ').append(x.singer(k, what)).append(' ');
            }
        }
        return text.toString();
    }
}
