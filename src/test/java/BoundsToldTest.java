import java.io.IOException;

/** The boundary cases of what is told: each sentence of part 1 of the terms, of chords, and of promises 1 to 8. */
public final class BoundsToldTest {
    private static final Script S = new Script("BoundsToldTest");
    private static final String PITCHES = "0123456789ab";
    private static final String LETTERS = "shtdf";
    private static final String WHOLE = "m01;-;s000";
    /** Two shapes; fields that miss 7, that miss 4 and 7, that are silent, that have no chord; one of each kind. */
    private static final String FIVE = "read(m047,037;04,0,-,012;s0b0,h0b1,t0b1,d001,f0b-) = 5";

    public static void main(String[] args) throws IOException {
        newObject();
        lastCall();
        feedBytes();
        feedFull();
        valleyParts();
        valleyHowMany();
        pitchesWritten();
        shapesWritten();
        fieldsWritten();
        singersWritten();
        faults();
        faultStays();
        valleyInPlace();
        shape();
        field();
        fieldChord();
        fieldStanding();
        singer();
        as();
        kindsOverOneAnother();
        chordBounds();
        chordRound();
        chordOrder();
        chordNone();
        S.end(args);
    }

    private static void newObject() {
        S.sentence(1, "`MissingNote()`: No VALLEY.");
        S.run("shape(0) = BAD", "field(0, 0) = BAD", "singer(0, 0) = BAD", "as(0, 0) = BAD", "chord(0, 0) = BAD",
                "hour() = NOT", "send(0, -1) = BAD", "send(0, 0) = BAD", "sound(0, 0) = BAD", "undo() = NONE",
                "image(0) = NOT", "image(1) = NOT", "sings(0) = BAD", "ahead(1, 0) = NOT", "ahead(0, 1) = NOT",
                "fills(0) = BAD", "stands(-1) = NOT", "stands(0) = BAD", "howls(0) = BAD", "back(0) = BAD",
                "wind(0, 0, 0) = BAD", "decades(0, 1, 0) = NOT", "decades(0, 1, 1) = NOT");
        S.run("lay(0, 0, 0, 12)", "log(0, 0, 0) = BAD", "sounded(0, 0, 0, 1, 0) = BAD", "kinds(0, 0, 0, 0, 1) = BAD");
        S.sentence(1, "SHEETS 0 .. 3: nothing (at first)");
        S.run("drop(0) = NULL", "drop(1) = NULL", "drop(2) = NULL", "drop(3) = NULL");
        S.sentence(1, "NOT: none was kept.");
        S.run("restore(0) = NOT", "restore(1) = NOT");
        S.sentence(1, "(but 8: 0 without a VALLEY)");
        S.run("count(0) = 0", "count(1) = 0", "count(2) = 0", "count(3) = 0", "count(4) = 0", "count(5) = 0", "count(6) = 0",
                "count(7) = 0", "count(8) = 0");
    }

    private static void lastCall() {
        S.sentence(1, "An object is used for at most 512 calls after it has been made");
        // 11 calls to read, 499 to turn a pitch off and on, and 2 more.
        S.run("read(m01;0;s000) = 1", "499 x sound(0, 0)", "field(0, 0) = 0", "count(7) = 24");
        S.run("read(m01;1;f000) = 1", "500 x hour() = 1", "count(3) = 500");
        S.run("130 x feed(0)", "381 x feed(0) = FULL", "count(8) = 130");
    }

    private static void feedBytes() {
        S.sentence(2, "A byte (0 .. 255) comes behind THE TAPE: how many it has. BAD; FULL.");
        S.run("feed(0) = 1", "feed(255) = 2", "feed(-1) = BAD", "feed(256) = BAD", "feed(MIN) = BAD", "feed(MAX) = BAD",
                "feed(1) = 3", "feed(254) = 4", "count(8) = 4");
        S.run("feed(-1) = BAD", "count(8) = 0", "feed(256) = BAD", "count(8) = 0");
        S.sentence(2, "A byte (0 .. 255)");
        // A byte is not cut to what fits: 365 and -147 are 109, m, by their lowest bits.
        S.run("feed(365) = BAD", "feed(-147) = BAD", "read(m01;-;s000) = 1");
    }

    private static void feedFull() {
        S.sentence(2, "THE TAPE has at most 130 bytes, that come one by one.");
        S.run("129 x feed(65)", "feed(66) = 130", "feed(67) = FULL", "feed(0) = FULL", "feed(255) = FULL", "count(8) = 130");
        S.sentence(2, "of several the first that a call names");
        S.run("130 x feed(65)", "feed(256) = BAD", "feed(-1) = BAD", "feed(255) = FULL", "feed(MIN) = BAD", "feed(MAX) = BAD");
        S.sentence(3, "THE TAPE, empty then, is a VALLEY: how many SINGERS.");
        // A full tape whose first byte cannot stand there, and then room for 130 again.
        S.run("130 x feed(65)", "feed(65) = FULL", "valley() = FAULT 0", "count(8) = 0", "feed(109) = 1");
        S.run("129 x feed(109)", "feed(109) = 130", "valley() = FAULT 1", "129 x feed(65)", "feed(65) = 130", "feed(65) = FULL");
        // The longest valley there can be has 114 bytes; what comes up to 130 stands behind it.
        String longest = "m01234,01235,01236,01237;" + PITCHES + "," + PITCHES + "," + PITCHES + "," + PITCHES + "," + PITCHES
                + ";s0b0,h0b1,t0b2,d0b3,f0b4";
        S.run("read(" + longest + ") = 5", "count(8) = 0", "count(1) = 5", "count(2) = 4", "field(4, 0) = 4095", "shape(3) = 143");
        S.run("read(" + longest + ",sssssssssssssss) = FAULT 114", "count(0) = 0");
        S.run("read(" + longest + "................) = FAULT 114", "count(8) = 0");
    }

    private static void valleyParts() {
        S.sentence(3, "A VALLEY is m shapes ; fields ; singers, nothing behind it");
        S.follows("", "m");
        S.follows("m", "0");
        S.follows("m01;", "-" + PITCHES);
        S.follows("m01;-;", LETTERS);
        S.follows(WHOLE, ",");
        S.follows("m01;-;s00-", ",");
        S.run("read(m01;-;s00-) = 1", "count(0) = 1", "count(1) = 1", "count(2) = 1", "count(8) = 0");
        S.run("read(m01;-;s00-m01;-;s00-) = FAULT 10", "count(0) = 0");
    }

    private static void valleyHowMany() {
        S.sentence(3, "1 to 4 SHAPES, 1 to 5 FIELDS, 1 to 5 SINGERS (0, 1, .. as they come), each with , between.");
        S.run("read(m;-;s000) = FAULT 1", "count(0) = 0");
        S.run("read(m01,02,03,04;-;s000) = 1", "count(2) = 4", "shape(0) = 3", "shape(1) = 5", "shape(2) = 9", "shape(3) = 17");
        S.run("read(m01,02,03,04,05;-;s000) = FAULT 12", "count(2) = 0");
        S.follows("m01,02,03", "456789ab,;");
        S.follows("m01,02,03,04", "56789ab;");
        S.follows("m01,02,03,", "0");
        S.run("read(m01;;s000) = FAULT 4", "count(1) = 0");
        S.run("read(m01;1,2,3,4,5;s000) = 1", "count(1) = 5", "field(0, 0) = 2", "field(4, 0) = 32");
        S.run("read(m01;1,2,3,4,5,6;s000) = FAULT 13", "count(1) = 0");
        S.follows("m01;1,2,3,4", "56789ab,;");
        S.follows("m01;1,2,3,4,5", "6789ab;");
        S.follows("m01;-,-,-,-,-", ";");
        S.follows("m01;-,-,-,-,", "-" + PITCHES);
        S.run("read(m01;-;) = FAULT 6", "count(0) = 0");
        S.run("read(m01;-;s000,h000,t000,d000,f000) = 5", "count(0) = 5", "singer(0, 0) = 1", "singer(4, 0) = 5");
        S.run("read(m01;-;s000,h000,t000,d000,f000,s000) = FAULT 30", "count(0) = 0");
        S.follows("m01;-;s000,s000,s000,s000", ",");
        S.follows("m01;-;s000,s000,s000,s000,s000", "");
        S.follows("m01;-;s000,s000,s000,s000,", LETTERS);
    }

    private static void pitchesWritten() {
        S.sentence(3, "PITCHES are written 0 to 9, a (10), b (11).");
        S.run("read(m09ab;9,a,b;s9a0,sab1,sbb2) = 3", "shape(0) = 3585", "field(0, 0) = 512", "field(1, 0) = 1024",
                "field(2, 0) = 2048", "singer(0, 1) = 9", "singer(0, 2) = 10", "singer(1, 1) = 10", "singer(1, 2) = 11",
                "singer(2, 1) = 11");
        S.run("read(m0c;-;s000) = FAULT 2", "read(m0A;-;s000) = FAULT 2", "read(m0B;-;s000) = FAULT 2",
                "read(m01;c;s000) = FAULT 4", "read(m01;A;s000) = FAULT 4", "read(m01;-;sc) = FAULT 7",
                "read(m01;-;s0c) = FAULT 8", "read(m01;-;s0A) = FAULT 8", "read(m01;10;s000) = FAULT 5");
    }

    private static void shapesWritten() {
        S.sentence(3, "A SHAPE is 2 to 5 PITCHES, rising, the first one 0.");
        S.follows("m0", "123456789ab");
        S.follows("m05", "6789ab,;");
        S.follows("m0a", "b,;");
        S.follows("m0b", ",;");
        S.follows("m012", "3456789ab,;");
        S.follows("m0123", "456789ab,;");
        S.follows("m01234", ",;");
        S.follows("m0789a", ",;");
        S.follows("m089ab", ",;");
        S.follows("m01,", "0");
        S.follows("m01,0", "123456789ab");
        S.follows("m01,0b", ",;");
        S.run("read(m01,01234;-;s000) = 1", "shape(0) = 3", "shape(1) = 31");
        S.run("read(m0;-;s000) = FAULT 2", "read(m012345;-;s000) = FAULT 6", "read(m12;-;s000) = FAULT 1",
                "read(m00;-;s000) = FAULT 2", "read(m021;-;s000) = FAULT 3", "count(2) = 0");
    }

    private static void fieldsWritten() {
        S.sentence(3, "A FIELD is the PITCHES that SOUND there, 1 to 12, rising, or - (none).");
        for (int k = 0; k < 12; k++) {
            S.follows("m01;" + PITCHES.charAt(k), PITCHES.substring(k + 1) + ",;");
            S.follows("m01;" + PITCHES.substring(0, k + 1), PITCHES.substring(k + 1) + ",;");
        }
        S.follows("m01;-", ",;");
        S.follows("m01;0,", "-" + PITCHES);
        S.run("read(m01;-,0,b,0123456789ab;s000) = 1", "field(0, 0) = 0", "field(1, 0) = 1", "field(2, 0) = 2048",
                "field(3, 0) = 4095");
        S.run("read(m01;00;s000) = FAULT 5", "read(m01;10;s000) = FAULT 5", "read(m01;0-;s000) = FAULT 5",
                "read(m01;-0;s000) = FAULT 5", "read(m01;0123456789abb;s000) = FAULT 16", "read(m01;0123456789ab0;s000) = FAULT 16");
    }

    private static void singersWritten() {
        S.sentence(3, "A SINGER is a letter, LOW, HIGH (PITCHES, HIGH no less than LOW), the FIELD where one stands (a figure), "
                + "or - (HOME): s SINGER, h HIGH, t THIRD, d DRONE, f FARMER.");
        for (int k = 0; k < LETTERS.length(); k++) {
            S.follows("m01;-;" + LETTERS.charAt(k), PITCHES);
        }
        for (int low = 0; low < 12; low++) {
            S.follows("m01;-;s" + PITCHES.charAt(low), PITCHES.substring(low));
            S.follows("m01;-;s00-,f" + PITCHES.charAt(low), PITCHES.substring(low));
        }
        String fields = "-";
        for (int many = 1; many <= 5; many++) {
            S.follows("m01;" + fields + ";s5b", "-" + PITCHES.substring(0, many));
            fields += ",-";
        }
        S.run("read(m01;-;s550) = 1", "singer(0, 1) = 5", "singer(0, 2) = 5", "singer(0, 4) = 0");
        S.run("read(m01;-;s560) = 1", "singer(0, 1) = 5", "singer(0, 2) = 6");
        S.run("read(m01;-;s540) = FAULT 8", "count(0) = 0");
        S.run("read(m01;-,-;s001,s00-) = 2", "singer(0, 4) = 1", "singer(1, 4) = NONE");
        S.run("read(m01;-,-;s002) = FAULT 11", "read(m01;-;s001) = FAULT 9", "read(m01;-;s00a) = FAULT 9",
                "read(m01;-;s00) = FAULT 9");
    }

    private static void faults() {
        S.sentence(3, "A FAULT is the place of the first byte that cannot stand there");
        // Two faults: the first tells.
        S.run("read(x01;0;s000) = FAULT 0", "read(mm1;00;x) = FAULT 1", "read(m01;00;x) = FAULT 5", "read(m01;0;x00) = FAULT 6");
        S.sentence(3, "a PITCH that does not rise");
        S.run("read(m011;-;s000) = FAULT 3", "read(m010;-;s000) = FAULT 3", "read(m01;11;s000) = FAULT 5",
                "read(m01;b0;s000) = FAULT 5", "read(m01,022;-;s000) = FAULT 6", "read(m01;0,33;s000) = FAULT 7");
        S.sentence(3, "a sixth one of a SHAPE: that");
        S.run("read(m012345;-;s000) = FAULT 6", "read(m01,012345;-;s000) = FAULT 9", "read(m012344;-;s000) = FAULT 6",
                "read(m012343;-;s000) = FAULT 6");
        S.sentence(3, "a SHAPE, a FIELD, a SINGER too many: the , ahead");
        S.run("read(m01,01,01,01,01;-;s000) = FAULT 12", "read(m01,01,01,01,;-;s000) = FAULT 12", "read(m01,01,01,01,) = FAULT 12",
                "read(m01;-,-,-,-,-,-;s000) = FAULT 13", "read(m01;-,-,-,-,-,) = FAULT 13",
                "read(m01;-;s000,s000,s000,s000,s000,s000) = FAULT 30", "read(m01;-;s000,s000,s000,s000,s000,) = FAULT 30");
        S.sentence(3, "a SHAPE of one: what stands behind it");
        S.run("read(m0;-;s000) = FAULT 2", "read(m0,01;-;s000) = FAULT 2", "read(m01,0;-;s000) = FAULT 5", "read(m01,0,) = FAULT 5",
                "read(m0) = FAULT 2", "read(m01,0) = FAULT 5");
        S.sentence(3, "the end: how many bytes there are.");
        String text = "m01,0b;-,0b;s0b1";
        for (int many = 0; many < text.length(); many++) {
            S.run("read(" + text.substring(0, many) + ") = FAULT " + many, "count(0) = 0");
        }
        S.run("read(" + text + ") = 1", "count(0) = 1");
        for (int many = 1; many < 5; many++) {
            S.run("read(" + text + ",s0b1".substring(0, many) + ") = FAULT " + (16 + many), "count(0) = 0");
        }
    }

    private static void faultStays() {
        S.sentence(3, "-100 less the place of a FAULT (all else stays).");
        S.run("valley() = FAULT 0", "count(8) = 0", "count(0) = 0", "read(m01;-;s000) = 1", "valley() = FAULT 0", "count(0) = 1");
        // Shapes, fields and singers that were read ahead of the fault stay unheard of.
        S.run(FIVE, "2 x hour() = 3", "send(0, -1) = 0", "sound(2, 5) = 1", "image(1) = 2", "lay(2, 1, 3, 4)",
                "read(m01,02,03,04;0,1,2,3,4;d00-,d00-,d00-,d00-,d00x) = FAULT 46", "count(0) = 5", "count(1) = 4", "count(2) = 2",
                "count(3) = 2", "count(4) = 14", "count(7) = 4", "count(8) = 0", "shape(0) = 145", "field(0, 0) = 17",
                "singer(0, 0) = 1", "singer(0, 3) = 4", "singer(0, 4) = NONE", "undo() = 3", "restore(1) = 2", "drop(2) = 2");
        S.run(FIVE, "hour() = 3", "read(m047;04;s0b) = FAULT 11", "hour() = 3", "count(3) = 2", "chord(9, 0) = 0", "chord(9, 1) = 8");
    }

    private static void valleyInPlace() {
        S.sentence(3, "A VALLEY that is read stands in place of the one before (none at first): nobody is TIRED, HOUR 0; "
                + "nothing can be undone; all else stays.");
        S.run("hour() = NOT", FIVE, "3 x hour() = 3", "image(0) = 3", "hour() = 1", "image(1) = 4", "lay(0, 0, 1, 2)",
                "lay(3, 3, 7)", "read(m06;0;h0b0,h0b0,h0b0) = 3", "count(3) = 0", "count(4) = 0", "count(7) = 0",
                "undo() = NONE", "singer(0, 3) = 0", "singer(1, 3) = 0", "singer(2, 3) = 0", "singer(3, 3) = BAD",
                "shape(0) = 65", "shape(1) = BAD", "field(1, 0) = BAD", "chord(1, 2) = 64", "chord(17, 0) = NONE",
                "restore(0) = 3", "count(4) = 21", "restore(1) = 4", "count(4) = 24", "drop(0) = 2", "drop(3) = 1");
        // Nor is it as tired, or as late, as was foretold of the one before.
        S.run("read(m01;0,0,0,0,0;h0b0,h0b1,h0b2,h0b3,h0b4) = 5", "3 x hour() = 31", "ahead(3, 1) = 50", "decades(9, 1, 1)",
                "read(m01;0,0,0,0,0;h0b0,h0b1,h0b2,h0b3,h0b4) = 5", "count(3) = 0", "count(4) = 0", "singer(0, 3) = 0",
                "singer(4, 3) = 0", "hour() = 31", "count(3) = 1");
        // The same text again begins anew, and more than there was can be read.
        S.run("read(m01;0;s0b0) = 1", "hour() = 1", "sound(0, 5) = 1", "read(m01;0;s0b0) = 1", "count(4) = 0", "count(3) = 0",
                "count(7) = 0", "field(0, 0) = 1", FIVE, "field(3, 0) = 7", "singer(4, 0) = 5");
    }

    private static void shape() {
        S.sentence(4, "`int shape(int shape)`: A SHAPE, as a set. BAD.");
        S.run("read(m01;-;s000) = 1", "shape(-1) = BAD", "shape(0) = 3", "shape(1) = BAD", "shape(3) = BAD", "shape(4) = BAD",
                "shape(MIN) = BAD", "shape(MAX) = BAD");
        S.run("read(m01,0b,01234,089ab;-;s000) = 1", "shape(-1) = BAD", "shape(0) = 3", "shape(1) = 2049", "shape(2) = 31",
                "shape(3) = 3841", "shape(4) = BAD");
        S.run("shape(0) = BAD", "shape(-1) = BAD");
    }

    private static void field() {
        S.sentence(5, "Of a FIELD: 0 what SOUNDS, 1 THE CHORD's SHAPE, 2 its ROOT (both NONE: none), 3 what is MISSING (0: none), "
                + "4 who stands there (sets but 1, 2). BAD.");
        S.run("read(m01;0;s0b0) = 1", "field(-1, 0) = BAD", "field(0, 0) = 1", "field(1, 0) = BAD", "field(4, 0) = BAD",
                "field(5, 0) = BAD", "field(MIN, 0) = BAD", "field(MAX, 0) = BAD");
        S.run("read(m01;0,1,2,3,4;s0b0) = 1", "field(-1, 0) = BAD", "field(0, 0) = 1", "field(4, 0) = 16", "field(5, 0) = BAD");
        S.run("read(m01;0;s0b0) = 1", "field(0, -1) = BAD", "field(0, 0) = 1", "field(0, 1) = 0", "field(0, 2) = 0",
                "field(0, 3) = 2", "field(0, 4) = 1", "field(0, 5) = BAD", "field(0, MIN) = BAD", "field(0, MAX) = BAD");
        S.run("field(0, 0) = BAD", "field(0, 4) = BAD", "field(-1, 5) = BAD");
    }

    private static void fieldChord() {
        S.sentence(5, "(both NONE: none)");
        S.run("read(m01;-,02,01,0123456789ab;s0b0) = 1", "field(0, 1) = NONE", "field(0, 2) = NONE", "field(0, 3) = 0",
                "field(1, 1) = NONE", "field(1, 2) = NONE", "field(1, 3) = 0", "field(2, 1) = 0", "field(2, 2) = 0",
                "field(2, 3) = 0", "field(3, 1) = NONE", "field(3, 2) = NONE", "field(3, 3) = 0", "field(3, 0) = 4095");
        S.sentence(5, "3 what is MISSING (0: none)");
        S.run("read(m0123b;5;s0b0) = 1", "field(0, 2) = 2", "field(0, 3) = 30", "sound(0, 5) = 0", "field(0, 3) = 0",
                "field(0, 2) = NONE");
        // The last shape, on 8; the last root: 0 9 on 11 is 11 and 8.
        S.run("read(m01,02,03,04;8;s0b0) = 1", "sound(0, 0) = 1", "field(0, 1) = 3", "field(0, 2) = 8");
        S.run("read(m09;8b;s0b0) = 1", "field(0, 1) = 0", "field(0, 2) = 11", "field(0, 3) = 0");
    }

    private static void fieldStanding() {
        S.sentence(5, "4 who stands there");
        S.run("read(m01;-,-;s0b0,s0b0,s0b0,s0b0,s0b0) = 5", "field(0, 4) = 31", "field(1, 4) = 0", "send(4, 1) = 0",
                "field(0, 4) = 15", "field(1, 4) = 16", "send(0, -1) = 0", "field(0, 4) = 14", "field(1, 4) = 16");
        S.run("read(m01;-;s0b-) = 1", "field(0, 4) = 0");
    }

    private static void singer() {
        S.sentence(6, "Of a SINGER: 0 the KIND, as told (1 .. 5), 1 LOW, 2 HIGH, 3 TIRED, 4 the FIELD (NONE: HOME). BAD.");
        S.run("read(m01;0;s0b0) = 1", "singer(-1, 0) = BAD", "singer(0, 0) = 1", "singer(1, 0) = BAD", "singer(4, 0) = BAD",
                "singer(5, 0) = BAD", "singer(MIN, 0) = BAD", "singer(MAX, 0) = BAD");
        S.run("read(m01;0;s0b0,h0b0,t0b0,d0b0,f0b0) = 5", "singer(-1, 0) = BAD", "singer(0, 0) = 1", "singer(1, 0) = 2",
                "singer(2, 0) = 3", "singer(3, 0) = 4", "singer(4, 0) = 5", "singer(5, 0) = BAD");
        S.run("read(m01;0,0;s0b1,hbb-,t000) = 3", "singer(0, -1) = BAD", "singer(0, 1) = 0", "singer(0, 2) = 11", "singer(0, 3) = 0",
                "singer(0, 4) = 1", "singer(0, 5) = BAD", "singer(0, MIN) = BAD", "singer(0, MAX) = BAD", "singer(1, 1) = 11",
                "singer(1, 2) = 11", "singer(1, 4) = NONE", "singer(2, 1) = 0", "singer(2, 2) = 0", "singer(2, 4) = 0");
        S.run("singer(0, 0) = BAD", "singer(0, 4) = BAD", "singer(-1, 5) = BAD");
        // The most one can be tired by: a high one, tired by 9, rests to 7 and sings once more.
        S.run("read(m01;0;h0b0) = 1", "3 x hour() = 1", "singer(0, 3) = 9", "2 x hour() = 0", "singer(0, 3) = 7", "hour() = 1",
                "singer(0, 3) = 10", "undo() = 5", "singer(0, 3) = 7");
    }

    private static void as() {
        S.sentence(7, "A SINGER taken as a KIND (0 .. 5): the number. BAD; CAST: one is none such.");
        S.run("read(m01;-;f00-) = 1", "as(0, -1) = BAD", "as(0, 0) = 0", "as(0, 5) = 0", "as(0, 6) = BAD", "as(0, MIN) = BAD",
                "as(0, MAX) = BAD", "as(-1, 0) = BAD", "as(1, 0) = BAD", "as(MIN, 0) = BAD", "as(MAX, 0) = BAD");
        S.run("read(m01;-;f00-,f00-,f00-,f00-,s00-) = 5", "as(4, 0) = 4", "as(4, 1) = 4", "as(4, 5) = CAST", "as(5, 0) = BAD");
        S.sentence(7, "of several the first that a call names");
        S.run("read(m01;-;s00-) = 1", "as(0, 5) = CAST", "as(1, 5) = BAD", "as(0, 6) = BAD", "as(-1, -1) = BAD");
        S.run("as(0, 0) = BAD", "as(0, 5) = BAD");
    }

    private static void kindsOverOneAnother() {
        S.sentence(7, "KINDS are over one another: PERSON (0); SINGER (1) and DRONE (4) under it; HIGH (2) is SINGER; "
                + "THIRD (3) is SINGER; FARMER (5) is DRONE.");
        String all = "read(m01;-;s00-,h00-,t00-,d00-,f00-) = 5";
        S.run(all, "as(0, 0) = 0", "as(0, 1) = 0", "as(0, 2) = CAST", "as(0, 3) = CAST", "as(0, 4) = CAST", "as(0, 5) = CAST");
        S.run(all, "as(1, 0) = 1", "as(1, 1) = 1", "as(1, 2) = 1", "as(1, 3) = CAST", "as(1, 4) = CAST", "as(1, 5) = CAST");
        S.run(all, "as(2, 0) = 2", "as(2, 1) = 2", "as(2, 2) = CAST", "as(2, 3) = 2", "as(2, 4) = CAST", "as(2, 5) = CAST");
        S.run(all, "as(3, 0) = 3", "as(3, 1) = CAST", "as(3, 2) = CAST", "as(3, 3) = CAST", "as(3, 4) = 3", "as(3, 5) = CAST");
        S.run(all, "as(4, 0) = 4", "as(4, 1) = CAST", "as(4, 2) = CAST", "as(4, 3) = CAST", "as(4, 4) = 4", "as(4, 5) = 4");
    }

    private static void chordBounds() {
        S.sentence(8, "THE CHORD of a set (0 .. 4095): its SHAPE (what 0), ROOT (1; both NONE: none), what is MISSING (2). "
                + "BAD (no VALLEY, too).");
        S.run("read(m01;-;s000) = 1", "chord(-1, 0) = BAD", "chord(0, 0) = NONE", "chord(1, 0) = 0", "chord(4095, 0) = NONE",
                "chord(4096, 0) = BAD", "chord(4097, 0) = BAD", "chord(MIN, 0) = BAD", "chord(MAX, 0) = BAD");
        S.run("read(m01;-;s000) = 1", "chord(1, -1) = BAD", "chord(1, 0) = 0", "chord(1, 1) = 0", "chord(1, 2) = 2",
                "chord(1, 3) = BAD", "chord(1, MIN) = BAD", "chord(1, MAX) = BAD");
        S.run("chord(0, 0) = BAD", "chord(1, 0) = BAD", "chord(1, 2) = BAD", "chord(4095, 1) = BAD", "chord(4096, 3) = BAD");
    }

    private static void chordRound() {
        S.sentence(8, "A CHORD is a SHAPE on a ROOT (a PITCH): the ROOT and each PITCH of the SHAPE together, by 12 what is left over.");
        // 0 and 5 on 7 are 7 and 0, on 11 are 11 and 4; 0 and 11 on 1 are 1 and 0.
        S.run("read(m05;-;s000) = 1", "chord(129, 1) = 7", "chord(129, 2) = 0", "chord(2064, 1) = 11", "chord(2064, 2) = 0",
                "chord(33, 1) = 0", "chord(2112, 1) = 6", "chord(3072, 0) = NONE");
        S.run("read(m0b;-;s000) = 1", "chord(3, 1) = 1", "chord(2049, 1) = 0", "chord(3072, 1) = 11", "chord(2048, 1) = 0",
                "chord(1, 1) = 0", "chord(1, 2) = 2048", "chord(2, 1) = 1", "chord(2, 2) = 1", "chord(1024, 1) = 10");
        // Each pitch of 0 1 2 3 4 on 10: 10, 11, 0, 1, 2.
        S.run("read(m01234;-;s000) = 1", "chord(3079, 1) = 10", "chord(3079, 2) = 0", "chord(3077, 2) = 2", "chord(2063, 1) = 11",
                "chord(3585, 1) = 8", "chord(3585, 2) = 256");
    }

    private static void chordOrder() {
        S.sentence(8, "of all CHORDS that have all of it the one of the fewest PITCHES, of such the first SHAPE, then the least ROOT");
        S.run("read(m0123,012,01;-;s000) = 1", "chord(15, 0) = 0", "chord(7, 0) = 1", "chord(3, 0) = 2", "chord(1, 0) = 2",
                "chord(5, 0) = 1", "chord(9, 0) = 0");
        // Fewest goes ahead of the first shape, and that ahead of the least root: 0 1 2 on 10, not 0 1 11 on 0.
        S.run("read(m012,01b;-;s000) = 1", "chord(2049, 0) = 0", "chord(2049, 1) = 10", "chord(2049, 2) = 1024");
        S.run("read(m01b,012;-;s000) = 1", "chord(2049, 0) = 0", "chord(2049, 1) = 0", "chord(2049, 2) = 2");
        S.run("read(m01234,0b;-;s000) = 1", "chord(3, 0) = 1", "chord(3, 1) = 1", "chord(5, 0) = 0", "chord(5, 1) = 0");
        // Two shapes alike: the first; four of the same size, of which only the last has it.
        S.run("read(m04,04;-;s000) = 1", "chord(17, 0) = 0", "chord(17, 1) = 0");
        S.run("read(m01,02,03,05;-;s000) = 1", "chord(33, 0) = 3", "chord(33, 1) = 0", "chord(2, 0) = 0", "chord(2, 1) = 0");
        // A shape that comes round on itself: 0 6 on 0 and on 6 is the same set.
        S.run("read(m06;-;s000) = 1", "chord(65, 1) = 0", "chord(64, 1) = 0", "chord(64, 2) = 1", "chord(2048, 1) = 5",
                "chord(2080, 1) = 5");
        S.run("read(m0369;-;s000) = 1", "chord(2340, 1) = 2", "chord(2048, 1) = 2", "chord(2048, 2) = 292", "chord(585, 1) = 0");
    }

    private static void chordNone() {
        S.sentence(8, "none, if there is none, or nothing SOUNDS");
        S.run("read(m01,0235;-;s000) = 1", "chord(0, 0) = NONE", "chord(0, 1) = NONE", "chord(0, 2) = 0", "chord(65, 0) = NONE",
                "chord(65, 1) = NONE", "chord(65, 2) = 0", "chord(31, 0) = NONE", "chord(45, 0) = 1", "chord(45, 2) = 0",
                "chord(47, 0) = NONE", "chord(47, 2) = 0");
        S.sentence(8, "MISSING is what THE CHORD has more.");
        S.run("read(m01234;-;s000) = 1", "chord(1, 2) = 30", "chord(31, 2) = 0", "chord(30, 2) = 1", "chord(17, 2) = 14");
    }
}
