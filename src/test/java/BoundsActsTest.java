import java.io.IOException;

/** The boundary cases of the acts: each sentence of part 2 of the terms and of promises 9 to 14. */
public final class BoundsActsTest {
    private static final Script S = new Script("BoundsActsTest");
    /** Two shapes; fields that miss 7, that miss 4 and 7, that are silent, that have no chord; one of each kind. */
    private static final String FIVE = "read(m047,037;04,0,-,012;s0b0,h0b1,t0b1,d001,f0b-) = 5";

    public static void main(String[] args) throws IOException {
        hourAnswers();
        hourRefused();
        tiredByLessThanEight();
        fromLowToHigh();
        leastAndGreatest();
        thirds();
        drones();
        farmers();
        oneAfterTheOther();
        full();
        tiredByMore();
        othersByOneLess();
        soundsStay();
        sendBounds();
        sendAnswers();
        soundBounds();
        soundOnAndOff();
        undoOrder();
        undoLatest();
        undoNone();
        whatIsNoAct();
        imageBounds();
        imageKeeps();
        restoreBounds();
        restoreIsAsItWas();
        S.end(args);
    }

    private static void hourAnswers() {
        S.sentence(9, "An HOUR passes: FIELDS that were FULL, as a set.");
        S.run("read(m01;02,-,012;s0b0) = 1", "hour() = 0", "count(3) = 1");
        S.run("read(m01;01,12,23,34,45;s00-) = 1", "hour() = 31", "count(3) = 1", "hour() = 31", "count(3) = 2");
        S.run("read(m01;-,-,-,-,01;s00-) = 1", "hour() = 16");
        S.run("read(m01;01;s00-) = 1", "hour() = 1");
        S.sentence(9, "it is the next HOUR.");
        S.run(FIVE, "count(3) = 0", "hour() = 3", "count(3) = 1", "59 x hour()", "count(3) = 60");
    }

    private static void hourRefused() {
        S.sentence(9, "NOT: no VALLEY, HOUR 9999.");
        S.run("hour() = NOT", "hour() = NOT", "count(3) = 0", "count(7) = 0", "undo() = NONE");
        S.run("read(m01) = FAULT 3", "hour() = NOT", "read(m01;01;s00-) = 1", "hour() = 1");
        // HOUR 9999 is further than 512 calls reach: ActsTest goes there beyond them.
    }

    private static void tiredByLessThanEight() {
        S.sentence(9, "SINGERS who stand there and are TIRED by less than 8 sing");
        S.run("read(m01;0;s0b0) = 1", "3 x hour() = 1", "singer(0, 3) = 6", "sings(0) = 1", "hour() = 1", "singer(0, 3) = 8",
                "sings(0) = NONE", "hour() = 0", "singer(0, 3) = 7", "sings(0) = 1", "hour() = 1", "singer(0, 3) = 9",
                "sings(0) = NONE", "hour() = 0", "singer(0, 3) = 8", "sings(0) = NONE", "hour() = 0", "singer(0, 3) = 7",
                "sings(0) = 1");
        S.run("read(m01;0;h0b0) = 1", "2 x hour() = 1", "singer(0, 3) = 6", "hour() = 1", "singer(0, 3) = 9", "hour() = 0",
                "singer(0, 3) = 8", "hour() = 0", "singer(0, 3) = 7", "hour() = 1", "singer(0, 3) = 10", "3 x hour() = 0",
                "singer(0, 3) = 7", "sings(0) = 1");
        S.run("read(m01;1;d0b0) = 1", "7 x hour() = 1", "singer(0, 3) = 7", "sings(0) = 0", "hour() = 1", "singer(0, 3) = 8",
                "sings(0) = NONE", "hour() = 0", "singer(0, 3) = 7", "hour() = 1", "singer(0, 3) = 8");
        // Who is too tired leaves what is missing to the next.
        S.run("read(m01;0,0;s0b0,s0b-) = 2", "4 x hour() = 1", "send(1, 0) = NONE", "sings(0) = NONE", "sings(1) = 1", "hour() = 1",
                "singer(0, 3) = 7", "singer(1, 3) = 2", "sings(0) = 1", "sings(1) = NONE");
        S.sentence(9, "in each FIELD that has THE CHORD (by what SOUNDS at first)");
        // 0 is of 0 and 6, though what is sung would be of other chords; 1 and 3 are of none, and nor is silence.
        S.run("read(m06,0167;0,13,-,0;s0b0,s0b1,s0b2,s0b3,s0b3) = 5", "sings(0) = 6", "sings(1) = NONE", "sings(2) = NONE", "sings(3) = 6",
                "sings(4) = NONE", "hour() = 9", "hour() = 9");
        S.sentence(9, "SINGERS who stand there");
        S.run("read(m01;0,-;s0b-,s0b1) = 2", "sings(0) = NONE", "sings(1) = NONE", "hour() = 0", "send(0, 0) = NONE", "hour() = 1");
    }

    private static void fromLowToHigh() {
        S.sentence(9, "each one PITCH that is MISSING yet, from LOW to HIGH (of these: what MAY be sung)");
        // Of 0 7 on 0 the 7 is missing: ranges that end or begin at 7, and those one off it.
        for (String kind : "s h t f".split(" ")) {
            S.run("read(m07;0;" + kind + "770) = 1", "sings(0) = 7", "hour() = 1");
            S.run("read(m07;0;" + kind + "070) = 1", "sings(0) = 7", "hour() = 1");
            S.run("read(m07;0;" + kind + "7b0) = 1", "sings(0) = 7", "hour() = 1");
            S.run("read(m07;0;" + kind + "060) = 1", "sings(0) = NONE", "hour() = 0");
            S.run("read(m07;0;" + kind + "8b0) = 1", "sings(0) = NONE", "hour() = 0");
        }
        // Of 0 5 on 6 the root is missing, where 11 sounds.
        for (String kind : "s h t d f".split(" ")) {
            S.run("read(m05;b;" + kind + "660) = 1", "field(0, 2) = 6", "sings(0) = 6", "hour() = 1");
            S.run("read(m05;b;" + kind + "050) = 1", "sings(0) = NONE", "hour() = 0");
            S.run("read(m05;b;" + kind + "7b0) = 1", "sings(0) = NONE", "hour() = 0");
        }
        S.run("read(m0b;0;sbb0) = 1", "sings(0) = 11");
        S.run("read(m01;1;s000) = 1", "sings(0) = 0");
    }

    private static void leastAndGreatest() {
        S.sentence(9, "a SINGER the least that MAY be, a HIGH one the greatest");
        S.run("read(m0124b;0;s0b0) = 1", "field(0, 3) = 2070", "sings(0) = 1");
        S.run("read(m0124b;0;s1b0) = 1", "sings(0) = 1");
        S.run("read(m0124b;0;s2b0) = 1", "sings(0) = 2");
        S.run("read(m0124b;0;s5b0) = 1", "sings(0) = 11");
        S.run("read(m0124b;0;s5a0) = 1", "sings(0) = NONE");
        S.run("read(m0124b;0;h0b0) = 1", "sings(0) = 11");
        S.run("read(m0124b;0;h0a0) = 1", "sings(0) = 4");
        S.run("read(m0124b;0;h040) = 1", "sings(0) = 4");
        S.run("read(m0124b;0;h030) = 1", "sings(0) = 2");
        S.run("read(m0124b;0;h5a0) = 1", "sings(0) = NONE");
    }

    private static void thirds() {
        S.sentence(9, "a THIRD the one 3 above the ROOT, else 4 above, if it MAY be, else as a SINGER");
        String on = "read(m02349;0;";
        S.run(on + "t0b0) = 1", "sings(0) = 3");
        S.run(on + "t3b0) = 1", "sings(0) = 3");
        S.run(on + "t030) = 1", "sings(0) = 3");
        S.run(on + "t4b0) = 1", "sings(0) = 4");
        S.run(on + "t5b0) = 1", "sings(0) = 9");
        S.run(on + "t020) = 1", "sings(0) = 2");
        S.run(on + "t010) = 1", "sings(0) = NONE");
        S.run("read(m02349;03;t0b0) = 1", "sings(0) = 4");
        S.run("read(m02349;034;t0b0) = 1", "sings(0) = 2");
        // Round and round: 3 above 10 is 1, 4 above 10 is 2, and each time 0 would be the least.
        S.run("read(m0235;3a;t0b0) = 1", "field(0, 2) = 10", "field(0, 3) = 3", "sings(0) = 1");
        S.run("read(m0245;3a;t0b0) = 1", "field(0, 2) = 10", "field(0, 3) = 5", "sings(0) = 2");
        // 2 and 5 above are no thirds.
        S.run("read(m0125;0;t0b0) = 1", "sings(0) = 1");
        S.run("read(m0156;0;t0b0) = 1", "sings(0) = 1");
    }

    private static void drones() {
        S.sentence(9, "a DRONE the ROOT, if it MAY be, else nothing");
        S.run("read(m047;47;d0b0) = 1", "sings(0) = 0", "hour() = 1");
        S.run("read(m047;47;d000) = 1", "sings(0) = 0");
        S.run("read(m047;47;d1b0) = 1", "sings(0) = NONE", "hour() = 0");
        S.run("read(m047;0;d0b0) = 1", "sings(0) = NONE", "hour() = 0");
        S.run("read(m047;47;s0b0,d0b0) = 2", "sings(0) = 0", "sings(1) = NONE");
        S.run("read(m047;47;d0b0,d0b0) = 2", "sings(0) = 0", "sings(1) = NONE");
        S.run("read(m01;0,-,02;d0b1,d0b2) = 2", "sings(0) = NONE", "sings(1) = NONE");
    }

    private static void farmers() {
        S.sentence(9, "a FARMER as a DRONE, but where a DRONE would sing nothing the one 7 above the ROOT, if it MAY be.");
        S.run("read(m047;4;f0b0) = 1", "field(0, 3) = 129", "sings(0) = 0");
        S.run("read(m047;4;f1b0) = 1", "sings(0) = 7");
        S.run("read(m047;4;f770) = 1", "sings(0) = 7");
        S.run("read(m047;4;f160) = 1", "sings(0) = NONE");
        S.run("read(m047;4;f8b0) = 1", "sings(0) = NONE");
        S.run("read(m047;0;f0b0) = 1", "sings(0) = 7");
        S.run("read(m047;07;f0b0) = 1", "sings(0) = NONE");
        S.run("read(m047;4;d0b0,f0b0,f0b0) = 3", "sings(0) = 0", "sings(1) = 7", "sings(2) = NONE");
        // Round and round: 7 above 10 is 5. What is 6 or 8 above is not for a farmer.
        S.run("read(m027;0a;f0b0) = 1", "field(0, 2) = 10", "field(0, 3) = 32", "sings(0) = 5");
        S.run("read(m027;0a;d0b0) = 1", "sings(0) = NONE");
        S.run("read(m0268;0;f0b0) = 1", "sings(0) = NONE");
        // 7 above 5 is 12, and so 0.
        S.run("read(m027;57;f0b0) = 1", "field(0, 2) = 5", "field(0, 3) = 1", "sings(0) = 0");
    }

    private static void oneAfterTheOther() {
        S.sentence(9, "sing, rising, one after the other");
        S.run("read(m01234;0;s0b0,s0b0,s0b0,s0b0,s0b0) = 5", "sings(0) = 1", "sings(1) = 2", "sings(2) = 3", "sings(3) = 4",
                "sings(4) = NONE", "hour() = 1", "count(4) = 8", "singer(4, 3) = 0");
        S.run("read(m01234;0;h0b0,s0b0,h0b0,s0b0) = 4", "sings(0) = 4", "sings(1) = 1", "sings(2) = 3", "sings(3) = 2");
        // The first takes the one pitch that the second can reach.
        S.run("read(m047;0;s0b0,s440) = 2", "sings(0) = 4", "sings(1) = NONE", "hour() = 0");
        S.run("read(m047;0;s440,s0b0) = 2", "sings(0) = 4", "sings(1) = 7", "hour() = 1");
        // What is sung in one field is still missing in another.
        S.run("read(m01;0,0;s0b1,s0b0) = 2", "sings(0) = 1", "sings(1) = 1", "hour() = 3");
    }

    private static void full() {
        S.sentence(9, "The FIELD is FULL, if nothing is MISSING at last (one without THE CHORD is not).");
        S.run("read(m047;047;s00-) = 1", "hour() = 1");
        S.run("read(m047;04;s00-) = 1", "hour() = 0");
        S.run("read(m047;04;s770) = 1", "hour() = 1");
        S.run("read(m047;0;s770) = 1", "hour() = 0");
        S.run("read(m047;-;s0b0) = 1", "hour() = 0", "field(0, 3) = 0");
        S.run("read(m047;012;s0b0) = 1", "hour() = 0", "field(0, 3) = 0");
        S.run("read(m01;0123456789ab;s0b0) = 1", "hour() = 0");
    }

    private static void tiredByMore() {
        S.sentence(9, "Who sang is TIRED by more: a SINGER by 2, a HIGH one 1 more than a SINGER, a THIRD as a SINGER, a DRONE by 1, "
                + "a FARMER 1 less than a DRONE");
        S.run("read(m01;1,1,1,1,1;s0b0,h0b1,t0b2,d0b3,f0b4) = 5", "hour() = 31", "singer(0, 3) = 2", "singer(1, 3) = 3",
                "singer(2, 3) = 2", "singer(3, 3) = 1", "singer(4, 3) = 0", "count(4) = 8", "hour() = 31", "singer(0, 3) = 4",
                "singer(1, 3) = 6", "singer(2, 3) = 4", "singer(3, 3) = 2", "singer(4, 3) = 0", "count(4) = 16");
        // To sing is enough: the field need not get full.
        S.run("read(m047;0;s770) = 1", "hour() = 0", "singer(0, 3) = 2");
        S.run("read(m01;1;f0b0) = 1", "30 x hour() = 1", "singer(0, 3) = 0", "sings(0) = 0");
    }

    private static void othersByOneLess() {
        S.sentence(9, "others by 1 less (0 at least).");
        S.run("read(m01;1;d0b0,s0b-) = 2", "hour() = 1", "singer(0, 3) = 1", "singer(1, 3) = 0", "send(0, -1) = 0", "hour() = 0",
                "singer(0, 3) = 0", "singer(1, 3) = 0", "hour() = 0", "singer(0, 3) = 0", "count(4) = 0");
        // At home, where nothing is missing, where there is no chord, where another sang it, too tired: all rest.
        S.run("read(m01;0,01,02,0;s0b0,s0b3,s0b0) = 3", "2 x hour() = 11", "singer(0, 3) = 4", "singer(1, 3) = 4",
                "singer(2, 3) = 0", "send(0, 1) = 0", "send(1, 2) = 3", "hour() = 3", "singer(0, 3) = 3", "singer(1, 3) = 3",
                "singer(2, 3) = 2", "send(0, -1) = 1", "send(1, 0) = 2", "hour() = 3", "singer(0, 3) = 2", "singer(1, 3) = 5",
                "singer(2, 3) = 1", "send(2, 3) = 0", "send(1, 3) = 0", "hour() = 10", "singer(1, 3) = 7", "singer(2, 3) = 0",
                "hour() = 10", "singer(1, 3) = 9", "hour() = 10", "singer(1, 3) = 8", "singer(2, 3) = 2");
        // A farmer who sings neither tires nor rests.
        S.run("read(m01;1,1;f0b0,d0b1) = 2", "hour() = 3", "count(4) = 1", "hour() = 3", "count(4) = 2");
    }

    private static void soundsStay() {
        S.sentence(9, "What SOUNDS stays as it was without them");
        S.run(FIVE, "3 x hour() = 3", "field(0, 0) = 17", "field(1, 0) = 1", "field(2, 0) = 0", "field(3, 0) = 7",
                "field(0, 3) = 128", "field(1, 3) = 144");
    }

    private static void sendBounds() {
        S.sentence(10, "SENT to a FIELD, or HOME (-1): where one stood (NONE: HOME). BAD; NOT: one stands there.");
        S.run("read(m01;0;s0b-) = 1", "send(-1, 0) = BAD", "send(0, 0) = NONE", "send(1, 0) = BAD", "send(5, 0) = BAD",
                "send(MIN, 0) = BAD", "send(MAX, 0) = BAD", "send(0, -2) = BAD", "send(0, 1) = BAD", "send(0, 5) = BAD",
                "send(0, MIN) = BAD", "send(0, MAX) = BAD", "singer(0, 4) = 0", "count(7) = 1");
        S.run("read(m01;0,0,0,0,0;s0b0,s0b0,s0b0,s0b0,s0b0) = 5", "send(4, 4) = 0", "send(5, 4) = BAD", "send(4, 5) = BAD",
                "singer(4, 4) = 4", "field(4, 4) = 16", "send(4, -1) = 4", "send(-1, -1) = BAD", "send(4, -2) = BAD");
        S.run("send(0, 0) = BAD", "send(0, -1) = BAD");
    }

    private static void sendAnswers() {
        S.sentence(10, "where one stood (NONE: HOME)");
        S.run("read(m01;0,0;s0b-) = 1", "send(0, 1) = NONE", "send(0, 0) = 1", "send(0, -1) = 0", "send(0, 0) = NONE",
                "singer(0, 4) = 0", "count(7) = 4");
        S.sentence(10, "NOT: one stands there.");
        S.run("read(m01;0,0;s0b-,s0b1) = 2", "send(0, -1) = NOT", "send(1, 1) = NOT", "count(7) = 0", "send(1, 0) = 1",
                "send(1, 0) = NOT", "send(1, 1) = 0", "send(1, 1) = NOT", "send(1, -1) = 1", "send(1, -1) = NOT", "count(7) = 3",
                "singer(0, 4) = NONE", "singer(1, 4) = NONE");
        S.sentence(10, "of several the first that a call names");
        S.run("read(m01;0;s0b0,s0b-) = 2", "send(0, 0) = NOT", "send(1, -1) = NOT", "send(2, -1) = BAD", "send(-1, 0) = BAD");
    }

    private static void soundBounds() {
        S.sentence(11, "A PITCH (0 .. 11) SOUNDS in a FIELD, or no more: 1 it SOUNDS then, 0. BAD.");
        S.run("read(m01;-;s0b-) = 1", "sound(0, -1) = BAD", "sound(0, 0) = 1", "sound(0, 11) = 1", "sound(0, 12) = BAD",
                "sound(0, MIN) = BAD", "sound(0, MAX) = BAD", "sound(0, 32) = BAD", "sound(-1, 0) = BAD", "sound(1, 0) = BAD",
                "sound(5, 0) = BAD", "sound(MIN, 0) = BAD", "sound(MAX, 0) = BAD", "field(0, 0) = 2049", "count(7) = 2");
        S.run("read(m01;-,-,-,-,-;s0b-) = 1", "sound(4, 11) = 1", "sound(5, 11) = BAD", "field(4, 0) = 2048", "field(0, 0) = 0");
        S.run("sound(0, 0) = BAD", "sound(-1, 12) = BAD");
    }

    private static void soundOnAndOff() {
        S.sentence(11, "1 it SOUNDS then, 0");
        S.run("read(m01;0;s0b-) = 1", "sound(0, 0) = 0", "field(0, 0) = 0", "field(0, 1) = NONE", "sound(0, 0) = 1",
                "field(0, 0) = 1", "sound(0, 1) = 1", "field(0, 0) = 3", "sound(0, 0) = 0", "field(0, 0) = 2");
        // From none to all twelve and back.
        S.run("read(m01;-;s0b-) = 1", "sound(0, 0) = 1", "sound(0, 1) = 1", "sound(0, 2) = 1", "sound(0, 3) = 1", "sound(0, 4) = 1",
                "sound(0, 5) = 1", "sound(0, 6) = 1", "sound(0, 7) = 1", "sound(0, 8) = 1", "sound(0, 9) = 1", "sound(0, 10) = 1",
                "field(0, 0) = 2047", "sound(0, 11) = 1", "field(0, 0) = 4095", "sound(0, 5) = 0", "field(0, 0) = 4063");
    }

    private static void undoOrder() {
        S.sentence(12, "ACTS (the latest 24 can be undone, the latest first): an HOUR passes; one is SENT to another FIELD, or HOME; "
                + "a PITCH SOUNDS in a FIELD, or no more.");
        S.run("read(m01;0,-;s0b0) = 1", "hour() = 1", "send(0, 1) = 0", "send(0, -1) = 1", "sound(1, 11) = 1", "sound(0, 0) = 0",
                "hour() = 0", "count(7) = 6", "undo() = 5", "count(3) = 1", "singer(0, 3) = 2", "undo() = 4", "field(0, 0) = 1",
                "undo() = 3", "field(1, 0) = 0", "undo() = 2", "singer(0, 4) = 1", "undo() = 1", "singer(0, 4) = 0",
                "undo() = 0", "count(3) = 0", "singer(0, 3) = 0", "undo() = NONE");
        // Who was tired by 0 and rested is tired by 0 again, not by 1.
        S.run("read(m01;-;s0b0) = 1", "hour() = 0", "undo() = 0", "singer(0, 3) = 0", "count(4) = 0");
        // Sent from home, undone: home.
        S.run("read(m01;-;s0b-) = 1", "send(0, 0) = NONE", "undo() = 0", "singer(0, 4) = NONE", "send(0, -1) = NOT");
        // All five as tired as can be.
        S.run("read(m01;0,0,0,0,0;h0b0,h0b1,h0b2,h0b3,h0b4) = 5", "3 x hour() = 31", "2 x hour() = 0", "hour() = 31", "count(4) = 50",
                "hour() = 0", "undo() = 6", "count(4) = 50", "singer(4, 3) = 10", "undo() = 5", "count(4) = 35", "singer(4, 3) = 7");
    }

    private static void undoLatest() {
        S.sentence(12, "the latest 24 can be undone");
        S.run("read(m01;-;s0b-) = 1", "sound(0, 0) = 1", "23 x hour() = 0", "count(7) = 24", "23 x undo()", "count(7) = 1",
                "field(0, 0) = 1", "undo() = 0", "field(0, 0) = 0", "undo() = NONE");
        // The 25th puts out the first, which stays as it is then.
        S.run("read(m01;-;s0b-) = 1", "sound(0, 0) = 1", "23 x hour() = 0", "count(7) = 24", "hour() = 0", "count(7) = 24",
                "undo() = 23", "23 x undo()", "undo() = NONE", "field(0, 0) = 1", "count(3) = 0");
        // 26: two are put out, and the latest are undone first.
        S.run("read(m01;-;s0b-) = 1", "sound(0, 0) = 1", "sound(0, 2) = 1", "24 x hour() = 0", "24 x undo()", "undo() = NONE",
                "field(0, 0) = 5");
        // Full, some undone, and full again: the count goes on from what is left.
        S.run("read(m01;-;s0b-) = 1", "24 x hour() = 0", "undo() = 23", "sound(0, 5) = 1", "count(7) = 24", "sound(0, 6) = 1",
                "count(7) = 24", "count(3) = 23", "undo() = 23", "field(0, 0) = 32", "undo() = 22", "field(0, 0) = 0", "22 x undo()",
                "undo() = NONE", "count(3) = 1");
        // Three times round.
        S.run("read(m01;-;s0b-) = 1", "75 x hour() = 0", "count(7) = 24", "undo() = 23", "22 x undo()", "undo() = 0", "undo() = NONE",
                "count(3) = 51");
    }

    private static void undoNone() {
        S.sentence(12, "The latest ACT is undone: how many more can be. NONE: none can.");
        S.run("undo() = NONE", "read(m01;0;s0b0) = 1", "undo() = NONE", "hour() = 1", "undo() = 0", "undo() = NONE", "undo() = NONE",
                "count(3) = 0", "count(7) = 0", "hour() = 1", "count(7) = 1", "hour() = 1", "undo() = 1", "undo() = 0", "undo() = NONE");
    }

    private static void whatIsNoAct() {
        S.sentence(12, "What is refused changes nothing, but as told.");
        S.run(FIVE, "hour() = 3", "send(0, 0) = NOT", "send(9, 0) = BAD", "sound(0, 12) = BAD", "image(2) = BAD", "restore(0) = NOT",
                "restore(2) = BAD", "count(7) = 1", "undo() = 0", "undo() = NONE", "count(7) = 0");
        // An image, a sheet and what is fed are no acts.
        S.run(FIVE, "hour() = 3", "image(0) = 1", "lay(0, 0, 1, 2)", "feed(109) = 1", "drop(0) = 2", "count(7) = 1", "undo() = 0",
                "count(8) = 1", "count(3) = 0");
    }

    private static void imageBounds() {
        S.sentence(13, "An IMAGE (0, 1) is kept of the VALLEY: the HOUR. BAD; NOT: no VALLEY.");
        S.run(FIVE, "image(-1) = BAD", "image(0) = 0", "image(1) = 0", "image(2) = BAD", "image(MIN) = BAD", "image(MAX) = BAD",
                "hour() = 3", "image(0) = 1", "restore(1) = 0", "restore(0) = 1");
        S.sentence(13, "of several the first that a call names");
        S.run("image(0) = NOT", "image(1) = NOT", "image(-1) = BAD", "image(2) = BAD", "restore(0) = NOT", "restore(1) = NOT");
        S.run("read(m01) = FAULT 3", "image(0) = NOT", "restore(0) = NOT");
    }

    private static void imageKeeps() {
        S.sentence(13, "An IMAGE (0, 1) is kept of the VALLEY");
        // What was undone ahead of it, what was done behind it, another image: none of them is in it.
        S.run(FIVE, "hour() = 3", "sound(2, 4) = 1", "undo() = 1", "image(0) = 1", "undo() = 0", "send(4, 0) = NONE", "2 x hour()",
                "image(1) = 2", "restore(0) = 1", "singer(4, 4) = NONE", "field(2, 0) = 0", "count(4) = 7", "restore(1) = 2",
                "singer(4, 4) = 0", "restore(0) = 1", "count(3) = 1");
        // Kept again, the later one stands.
        S.run(FIVE, "image(0) = 0", "hour() = 3", "image(0) = 1", "hour() = 3", "restore(0) = 1", "restore(1) = NOT");
    }

    private static void restoreBounds() {
        S.sentence(14, "The VALLEY is as the IMAGE was (nothing can be undone then): the HOUR. BAD; NOT: none was kept.");
        S.run(FIVE, "restore(0) = NOT", "restore(1) = NOT", "image(0) = 0", "restore(-1) = BAD", "restore(0) = 0", "restore(1) = NOT",
                "restore(2) = BAD", "restore(MIN) = BAD", "restore(MAX) = BAD");
        S.run(FIVE, "image(1) = 0", "restore(0) = NOT", "restore(1) = 0");
        S.sentence(14, "of several the first that a call names");
        S.run("restore(-1) = BAD", "restore(2) = BAD", "restore(0) = NOT", "restore(1) = NOT");
        S.sentence(14, "(nothing can be undone then)");
        S.run(FIVE, "3 x hour() = 3", "image(0) = 3", "hour() = 1", "restore(0) = 3", "count(7) = 0", "undo() = NONE", "hour() = 1",
                "count(7) = 1", "undo() = 0", "count(3) = 3", "undo() = NONE");
    }

    private static void restoreIsAsItWas() {
        S.sentence(14, "The VALLEY is as the IMAGE was");
        S.run(FIVE, "2 x hour() = 3", "send(0, 2) = 0", "sound(2, 0) = 1", "image(1) = 2", "read(m01;0;f000) = 1", "hour() = 0",
                "restore(1) = 2", "count(0) = 5", "count(1) = 4", "count(2) = 2", "count(3) = 2", "count(4) = 14", "singer(0, 0) = 1",
                "singer(0, 1) = 0", "singer(0, 2) = 11", "singer(0, 3) = 4", "singer(0, 4) = 2", "singer(4, 4) = NONE",
                "field(2, 0) = 1", "shape(1) = 137", "chord(9, 0) = 0", "chord(137, 0) = 1", "hour() = 2");
        // From more to less, and it can be restored time and again.
        S.run("read(m06;0;s0b0) = 1", "image(0) = 0", FIVE, "hour() = 3", "restore(0) = 0", "count(0) = 1", "count(1) = 1",
                "count(2) = 1", "singer(1, 0) = BAD", "field(1, 0) = BAD", "shape(1) = BAD", "chord(1, 2) = 64", "hour() = 1",
                "sound(0, 6) = 1", "restore(0) = 0", "count(4) = 0", "field(0, 0) = 1", "hour() = 1", "restore(0) = 0");
        // The first and the last: of four shapes, five fields, five singers.
        S.run("read(m01,02,03,04;0,0,0,0,0;h0b0,h0b1,h0b2,h0b3,h0b4) = 5", "hour() = 31", "send(4, -1) = 4", "sound(4, 0) = 0",
                "image(1) = 1", "read(m06;-;f00-) = 1", "restore(1) = 1", "shape(0) = 3", "shape(3) = 17", "field(0, 0) = 1",
                "field(4, 0) = 0", "singer(0, 3) = 3", "singer(4, 3) = 3", "singer(0, 4) = 0", "singer(4, 4) = NONE",
                "singer(4, 0) = 2", "singer(4, 2) = 11", "count(4) = 15");
        // The tape and the sheets are not in it.
        S.run(FIVE, "image(0) = 0", "lay(1, 2, 5)", "feed(109) = 1", "restore(0) = 0", "count(8) = 1", "drop(1) = 1");
    }
}
