/** Promises 9 to 14: acts. */
public final class ActsTest {
    private static final Check CHECK = new Check("ActsTest");
    private static final int MIN = Integer.MIN_VALUE;
    private static final int MAX = Integer.MAX_VALUE;
    /**
     * Field 0 misses 7, field 1 misses 4 and 7, field 2 is silent, field 3 has no chord.
     * The drone's root sounds already, and the farmer is at home.
     */
    private static final String FIVE = "m047,037;04,0,-,012;s0b0,h0b1,t0b1,d001,f0b-";

    public static void main(String[] args) {
        hours();
        droneAndFarmer();
        oneAfterTheOther();
        thirds();
        hourRefused();
        send();
        sound();
        undo();
        undoRound();
        image();
        restore();
        CHECK.end();
    }

    private static void hours() {
        CHECK.promise(9);
        MissingNote x = Check.valley(FIVE);
        int[] full = {3, 3, 3, 1, 0, 3, 0, 0, 1};
        int[][] tired = {
            {2, 3, 2}, {4, 6, 4}, {6, 9, 6}, {8, 8, 8}, {7, 7, 7}, {9, 10, 9}, {8, 9, 8}, {7, 8, 7}, {9, 7, 9},
        };
        for (int k = 0; k < full.length; k++) {
            CHECK.due("hour(), number " + (k + 1), x.hour(), full[k]);
            CHECK.due("count(3)", x.count(3), k + 1);
            for (int singer = 0; singer < 5; singer++) {
                int due = singer < 3 ? tired[k][singer] : 0;
                CHECK.due("singer(" + singer + ", 3), hour " + (k + 1), x.singer(singer, 3), due);
            }
            CHECK.due("field(0, 0)", x.field(0, 0), 17);
            CHECK.due("field(1, 0)", x.field(1, 0), 1);
        }
    }

    /** A drone is tired by 1 more, a farmer by none, and neither is rested by singing. */
    private static void droneAndFarmer() {
        CHECK.promise(9);
        MissingNote x = Check.valley("m047;47,04,5;d0b0,f0b1,f0b2,d1b0");
        CHECK.due("hour()", x.hour(), 3);
        CHECK.due("singer(0, 3)", x.singer(0, 3), 1);
        CHECK.due("singer(1, 3)", x.singer(1, 3), 0);
        CHECK.due("singer(3, 3)", x.singer(3, 3), 0);
        CHECK.due("send(0, -1)", x.send(0, -1), 0);
        CHECK.due("hour()", x.hour(), 2);
        CHECK.due("singer(0, 3) at home", x.singer(0, 3), 0);
        CHECK.due("hour()", x.hour(), 2);
        CHECK.due("singer(0, 3), no less than 0", x.singer(0, 3), 0);
    }

    /** Field 0 misses 4 and 7: who comes first takes what the next one then finds gone. */
    private static void oneAfterTheOther() {
        CHECK.promise(9);
        MissingNote x = Check.valley("m047;0,-;s0b0,h040,s0b0,s0b1");
        CHECK.due("hour()", x.hour(), 1);
        CHECK.due("singer(0, 3)", x.singer(0, 3), 2);
        CHECK.due("singer(1, 3)", x.singer(1, 3), 0);
        CHECK.due("singer(2, 3)", x.singer(2, 3), 2);
        CHECK.due("singer(3, 3)", x.singer(3, 3), 0);
        x = Check.valley("m047;0;h040,s0b0,s0b0");
        CHECK.due("hour()", x.hour(), 1);
        CHECK.due("singer(0, 3)", x.singer(0, 3), 3);
        CHECK.due("singer(1, 3)", x.singer(1, 3), 2);
        CHECK.due("singer(2, 3)", x.singer(2, 3), 0);
    }

    /** Of 0 2 3 4 9, with 0 sounding: the third takes 3, then 4, then the least; it may not reach all. */
    private static void thirds() {
        CHECK.promise(9);
        MissingNote x = Check.valley("m02349;0;t0b0,t0b0,t0b0,t0b0");
        CHECK.due("hour()", x.hour(), 1);
        CHECK.due("undo()", x.undo(), 0);
        int[] due = {3, 4, 2, 9};
        for (int singer = 0; singer < 4; singer++) {
            CHECK.due("sings(" + singer + ")", x.sings(singer), due[singer]);
        }
        x = Check.valley("m02349;0;t4b0,t020,t5b0");
        CHECK.due("sings(0)", x.sings(0), 4);
        CHECK.due("sings(1)", x.sings(1), 2);
        CHECK.due("sings(2)", x.sings(2), 9);
        CHECK.due("hour()", x.hour(), 0);
    }

    private static void hourRefused() {
        CHECK.promise(9);
        MissingNote x = new MissingNote();
        CHECK.due("hour(), no valley", x.hour(), MissingNote.NOT);
        CHECK.due("count(3)", x.count(3), 0);
        CHECK.due("count(7)", x.count(7), 0);
        // Beyond the 512 calls that are promised, but the one way to the last hour.
        x = Check.valley("m01;01;s00-");
        for (int k = 0; k < 9999; k++) {
            x.hour();
        }
        CHECK.due("count(3)", x.count(3), 9999);
        CHECK.due("undo()", x.undo(), 23);
        CHECK.due("hour() to the last one", x.hour(), 1);
        CHECK.due("hour(), HOUR 9999", x.hour(), MissingNote.NOT);
        CHECK.due("count(3)", x.count(3), 9999);
        CHECK.due("count(7)", x.count(7), 24);
    }

    private static void send() {
        CHECK.promise(10);
        MissingNote x = Check.valley(FIVE);
        CHECK.due("send(0, 3)", x.send(0, 3), 0);
        CHECK.due("singer(0, 4)", x.singer(0, 4), 3);
        CHECK.due("field(3, 4)", x.field(3, 4), 1);
        CHECK.due("field(0, 4)", x.field(0, 4), 0);
        CHECK.due("send(0, -1)", x.send(0, -1), 3);
        CHECK.due("singer(0, 4)", x.singer(0, 4), MissingNote.NONE);
        CHECK.due("send(4, 2)", x.send(4, 2), MissingNote.NONE);
        CHECK.due("count(7)", x.count(7), 3);
        CHECK.due("send(4, 2) again", x.send(4, 2), MissingNote.NOT);
        CHECK.due("send(0, -1) again", x.send(0, -1), MissingNote.NOT);
        for (int bad : new int[] {4, -2, MIN, MAX}) {
            CHECK.due("send(0, " + bad + ")", x.send(0, bad), MissingNote.BAD);
        }
        for (int bad : new int[] {5, -1, MIN, MAX}) {
            CHECK.due("send(" + bad + ", 0)", x.send(bad, 0), MissingNote.BAD);
        }
        CHECK.due("count(7)", x.count(7), 3);
        CHECK.due("send(0, -1), no valley", new MissingNote().send(0, -1), MissingNote.BAD);
    }

    private static void sound() {
        CHECK.promise(11);
        MissingNote x = Check.valley(FIVE);
        CHECK.due("sound(2, 11)", x.sound(2, 11), 1);
        CHECK.due("field(2, 0)", x.field(2, 0), 2048);
        CHECK.due("sound(2, 0)", x.sound(2, 0), 1);
        CHECK.due("field(2, 0)", x.field(2, 0), 2049);
        CHECK.due("sound(2, 11) again", x.sound(2, 11), 0);
        CHECK.due("field(2, 0)", x.field(2, 0), 1);
        CHECK.due("field(2, 3)", x.field(2, 3), 144);
        CHECK.due("field(1, 0)", x.field(1, 0), 1);
        CHECK.due("count(7)", x.count(7), 3);
        for (int bad : new int[] {12, -1, MIN, MAX}) {
            CHECK.due("sound(0, " + bad + ")", x.sound(0, bad), MissingNote.BAD);
        }
        for (int bad : new int[] {4, -1, MIN, MAX}) {
            CHECK.due("sound(" + bad + ", 0)", x.sound(bad, 0), MissingNote.BAD);
        }
        CHECK.due("count(7)", x.count(7), 3);
        CHECK.due("field(0, 0)", x.field(0, 0), 17);
        CHECK.due("sound(0, 0), no valley", new MissingNote().sound(0, 0), MissingNote.BAD);
    }

    private static void undo() {
        CHECK.promise(12);
        MissingNote x = Check.valley(FIVE);
        x.hour();
        x.hour();
        x.send(1, -1);
        x.sound(0, 7);
        x.hour();
        x.send(1, 2);
        CHECK.due("undo() of send", x.undo(), 5);
        CHECK.due("singer(1, 4)", x.singer(1, 4), MissingNote.NONE);
        CHECK.due("count(3)", x.count(3), 3);
        CHECK.due("undo() of hour", x.undo(), 4);
        CHECK.due("count(3)", x.count(3), 2);
        CHECK.due("singer(0, 3)", x.singer(0, 3), 4);
        CHECK.due("singer(1, 3)", x.singer(1, 3), 6);
        CHECK.due("undo() of sound", x.undo(), 3);
        CHECK.due("field(0, 0)", x.field(0, 0), 17);
        CHECK.due("undo() of send", x.undo(), 2);
        CHECK.due("singer(1, 4)", x.singer(1, 4), 1);
        CHECK.due("undo() of hour", x.undo(), 1);
        CHECK.due("count(4)", x.count(4), 7);
        CHECK.due("undo() of hour", x.undo(), 0);
        CHECK.due("count(4)", x.count(4), 0);
        CHECK.due("count(3)", x.count(3), 0);
        CHECK.due("undo() of none", x.undo(), MissingNote.NONE);
        CHECK.due("undo(), no valley", new MissingNote().undo(), MissingNote.NONE);
    }

    /** Only the latest 24 are kept, however many there were. */
    private static void undoRound() {
        CHECK.promise(12);
        MissingNote x = Check.valley("m047;-;s0b0");
        for (int k = 0; k < 60; k++) {
            x.hour();
            CHECK.due("count(7) behind " + (k + 1), x.count(7), Math.min(24, k + 1));
        }
        CHECK.due("sound(0, 5)", x.sound(0, 5), 1);
        CHECK.due("count(7)", x.count(7), 24);
        CHECK.due("undo()", x.undo(), 23);
        CHECK.due("field(0, 0)", x.field(0, 0), 0);
        for (int k = 22; k >= 0; k--) {
            CHECK.due("undo()", x.undo(), k);
        }
        CHECK.due("undo()", x.undo(), MissingNote.NONE);
        CHECK.due("count(3)", x.count(3), 60 - 23);
    }

    private static void image() {
        CHECK.promise(13);
        MissingNote x = new MissingNote();
        CHECK.due("image(2), no valley", x.image(2), MissingNote.BAD);
        CHECK.due("image(0), no valley", x.image(0), MissingNote.NOT);
        Check.read(x, FIVE);
        x.hour();
        CHECK.due("image(0)", x.image(0), 1);
        CHECK.due("count(7)", x.count(7), 1);
        x.hour();
        CHECK.due("image(1)", x.image(1), 2);
        for (int bad : new int[] {2, -1, MIN, MAX}) {
            CHECK.due("image(" + bad + ")", x.image(bad), MissingNote.BAD);
        }
        x.hour();
        CHECK.due("restore(0)", x.restore(0), 1);
        CHECK.due("restore(1)", x.restore(1), 2);
        x.hour();
        CHECK.due("image(0) again", x.image(0), 3);
        CHECK.due("restore(1)", x.restore(1), 2);
        CHECK.due("restore(0)", x.restore(0), 3);
    }

    private static void restore() {
        CHECK.promise(14);
        MissingNote x = Check.valley(FIVE);
        for (int bad : new int[] {2, -1, MIN, MAX}) {
            CHECK.due("restore(" + bad + ")", x.restore(bad), MissingNote.BAD);
        }
        x.hour();
        CHECK.due("image(1)", x.image(1), 1);
        CHECK.due("restore(0)", x.restore(0), MissingNote.NOT);
        CHECK.due("count(7) behind a refusal", x.count(7), 1);
        x.sound(2, 3);
        x.send(0, -1);
        x.hour();
        Check.feed(x, "m01");
        CHECK.due("restore(1)", x.restore(1), 1);
        CHECK.due("count(3)", x.count(3), 1);
        CHECK.due("count(4)", x.count(4), 7);
        CHECK.due("count(7)", x.count(7), 0);
        CHECK.due("count(8)", x.count(8), 3);
        CHECK.due("field(2, 0)", x.field(2, 0), 0);
        CHECK.due("singer(0, 4)", x.singer(0, 4), 0);
        CHECK.due("undo()", x.undo(), MissingNote.NONE);
        CHECK.due("another valley", Check.read(x, ";-;dbb-"), 1);
        CHECK.due("count(2)", x.count(2), 1);
        CHECK.due("restore(1)", x.restore(1), 1);
        CHECK.due("count(0)", x.count(0), 5);
        CHECK.due("count(2)", x.count(2), 2);
        CHECK.due("field(0, 2)", x.field(0, 2), 0);
        CHECK.due("hour()", x.hour(), 3);
        CHECK.due("restore(1), it is kept", x.restore(1), 1);
        CHECK.due("restore(0), no valley", new MissingNote().restore(0), MissingNote.NOT);
    }
}
