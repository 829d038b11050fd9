import java.io.IOException;
import java.math.BigInteger;

/** The boundary cases of what is foretold: each sentence of part 3 of the terms and of promises 15 to 22. */
public final class BoundsForetoldTest {
    private static final Script S = new Script("BoundsForetoldTest");
    private static final Check CHECK = new Check("BoundsForetoldTest, as if acted");
    /** Two shapes; fields that miss 7, that miss 4 and 7, that are silent, that have no chord; one of each kind. */
    private static final String TEXT = "m047,037;04,0,-,012;s0b0,h0b1,t0b1,d001,f0b-";
    private static final String FIVE = "read(" + TEXT + ") = 5";

    public static void main(String[] args) throws IOException {
        sings();
        aheadBounds();
        aheadHours();
        fillsBounds();
        fillsFewest();
        fillsNone();
        standsBounds();
        standsMost();
        standsLeast();
        standsFirst();
        howlsBounds();
        howls();
        backBounds();
        backFewest();
        windBounds();
        windOdds();
        windByThemselves();
        decadesBounds();
        decadesDraws();
        asIfActed();
        if (!CHECK.isClean()) {
            CHECK.end();
        }
        S.end(args);
    }

    private static void sings() {
        S.sentence(15, "What a SINGER sings in this HOUR; NONE: nothing. BAD.");
        S.run("read(m01;1;s000) = 1", "sings(-1) = BAD", "sings(0) = 0", "sings(1) = BAD", "sings(4) = BAD", "sings(MIN) = BAD",
                "sings(MAX) = BAD");
        S.run("read(m0b;0,0,0,0,0;s0b-,s0b-,s0b-,s0b-,s0b4) = 5", "sings(4) = 11", "sings(5) = BAD", "sings(-1) = BAD");
        S.run("sings(0) = BAD", "sings(-1) = BAD");
        S.sentence(15, "NONE: nothing");
        // At home; where nothing sounds; where there is no chord; where nothing is missing; out of reach.
        S.run("read(m01;0,-,02,01;s0b-,s0b1,s0b2,s0b3,s2b0) = 5", "sings(0) = NONE", "sings(1) = NONE", "sings(2) = NONE",
                "sings(3) = NONE", "sings(4) = NONE");
        S.run("read(m01;0;s0b0,s0b0) = 2", "sings(0) = 1", "sings(1) = NONE", "4 x hour() = 1", "sings(0) = NONE", "sings(1) = 1");
    }

    private static void aheadBounds() {
        S.sentence(16, "FIELDS that are FULL in the n-th HOUR (1 .. 60) from now, 1 this one, as a set (what 0); how much all are TIRED "
                + "behind n HOURS (0 .. 60; 1). BAD; NOT: no VALLEY.");
        S.run("read(m01;0;s0b0) = 1", "ahead(0, 0) = BAD", "ahead(1, 0) = 1", "ahead(60, 0) = 1", "ahead(61, 0) = BAD",
                "ahead(-1, 0) = BAD", "ahead(MIN, 0) = BAD", "ahead(MAX, 0) = BAD");
        S.run("read(m01;0;s0b0) = 1", "ahead(-1, 1) = BAD", "ahead(0, 1) = 0", "ahead(60, 1) = 9", "ahead(61, 1) = BAD",
                "ahead(MIN, 1) = BAD", "ahead(MAX, 1) = BAD");
        S.run("read(m01;0;s0b0) = 1", "ahead(1, -1) = BAD", "ahead(1, 2) = BAD", "ahead(1, MIN) = BAD", "ahead(1, MAX) = BAD",
                "ahead(0, 2) = BAD", "ahead(0, -1) = BAD");
        S.sentence(16, "of several the first that a call names");
        S.run("ahead(1, 0) = NOT", "ahead(60, 0) = NOT", "ahead(0, 1) = NOT", "ahead(60, 1) = NOT", "ahead(0, 0) = BAD",
                "ahead(61, 0) = BAD", "ahead(-1, 1) = BAD", "ahead(61, 1) = BAD", "ahead(1, 2) = BAD", "ahead(1, -1) = BAD");
    }

    private static void aheadHours() {
        S.sentence(16, "1 this one");
        // Sung in hours 1 to 4, in 6, and then in each third one.
        S.run("read(m01;0;s0b0) = 1", "ahead(4, 0) = 1", "ahead(5, 0) = 0", "ahead(6, 0) = 1", "ahead(7, 0) = 0", "ahead(8, 0) = 0",
                "ahead(9, 0) = 1", "ahead(58, 0) = 0", "ahead(59, 0) = 0", "ahead(60, 0) = 1", "ahead(4, 1) = 8", "ahead(5, 1) = 7",
                "ahead(6, 1) = 9", "ahead(59, 1) = 7", "ahead(60, 1) = 9", "hour() = 1", "ahead(3, 0) = 1", "ahead(4, 0) = 0",
                "ahead(0, 1) = 2", "ahead(3, 1) = 8", "ahead(59, 0) = 1", "ahead(60, 0) = 0");
        S.run("read(m01;01,12,23,34,45;s00-) = 1", "ahead(1, 0) = 31", "ahead(60, 0) = 31", "ahead(60, 1) = 0");
        S.run("read(m01;-;s0b0) = 1", "ahead(1, 0) = 0", "ahead(60, 0) = 0");
        S.sentence(16, "FORETOLD from now (nothing changes).");
        S.run(FIVE, "hour() = 3", "ahead(60, 0)", "ahead(60, 1)", "count(3) = 1", "count(4) = 7", "count(7) = 1", "hour() = 3");
    }

    private static void fillsBounds() {
        S.sentence(17, "`int fills(int field)`: FILLS, as a set; NONE. BAD.");
        S.run("read(m01;0;s0b0) = 1", "fills(-1) = BAD", "fills(0) = 1", "fills(1) = BAD", "fills(4) = BAD", "fills(5) = BAD",
                "fills(MIN) = BAD", "fills(MAX) = BAD");
        S.run("read(m01;-,-,-,-,0;s0b0) = 1", "fills(4) = 1", "fills(5) = BAD", "fills(0) = NONE");
        S.run("fills(0) = BAD", "fills(-1) = BAD");
    }

    private static void fillsFewest() {
        S.sentence(17, "FILLS of a FIELD: the fewest SINGERS, of as few the least set, by which it would be FULL in this HOUR, "
                + "these alone standing there; none.");
        S.run("read(m01;01;s0b0) = 1", "fills(0) = 0");
        S.run("read(m01;0;s00-,s00-,s00-,s00-,s11-) = 5", "fills(0) = 16");
        S.run("read(m01;0;s11-,s11-,s11-,s11-,s11-) = 5", "fills(0) = 1");
        S.run("read(m047;0;s0b-,s0b-,s0b-) = 3", "fills(0) = 3");
        S.run("read(m01234;0;s0b-,s0b-,s0b-,s0b-,s0b-) = 5", "fills(0) = 15");
        S.run("read(m01234;0;d0b-,s0b-,s0b-,s0b-,s0b-) = 5", "fills(0) = 30");
        // Few goes ahead of least: 16 alone, and not 3.
        S.run("read(m047;07;d0b-,h77-,f0b-,s55-,s44-) = 5", "fills(0) = 16");
        S.run("read(m0147;0;s11-,s44-,s77-,s1b-,s4b-) = 5", "fills(0) = 7");
        // Of 7 alone, 4 alone, 4 and 7: the least of 6, 10 and 12.
        S.run("read(m047;0;s66-,s77-,s44-,s47-) = 4", "fills(0) = 6");
        // They sing rising: the first takes the 4 that the second needs.
        S.run("read(m047;0;s47-,s44-) = 2", "fills(0) = NONE");
        S.run("read(m047;0;s44-,s47-) = 2", "fills(0) = 3");
        // Who stands there does not count, and neither does where those stand who are called.
        S.run("read(m047;0,0;s470,s441,s771) = 3", "hour() = 2", "fills(0) = 5", "fills(1) = 5");
    }

    private static void fillsNone() {
        S.sentence(17, "FILLS, as a set; NONE.");
        S.run("read(m01;-,02,0,0123456789ab;s00-) = 1", "fills(0) = NONE", "fills(1) = NONE", "fills(2) = NONE", "fills(3) = NONE");
        S.run("read(m01234;0;s0b-,s0b-,s0b-) = 3", "fills(0) = NONE");
        // Tired by 8 one fills nothing, by 7 again.
        S.run("read(m01;0;s0b0) = 1", "3 x hour() = 1", "fills(0) = 1", "hour() = 1", "fills(0) = NONE", "hour() = 0", "fills(0) = 1");
        S.run("read(m01;0;s0b0,s0b-) = 2", "4 x hour() = 1", "fills(0) = 2", "hour() = 0", "fills(0) = 1");
        S.run("read(m01;01;s0b0) = 1", "hour() = 1", "fills(0) = 0");
    }

    private static void standsBounds() {
        S.sentence(18, "STANDS: how many FIELDS are FULL (singer -1), where one stands (NONE: HOME). BAD; NOT: no VALLEY.");
        S.run("read(m01;0;s0b-) = 1", "stands(-2) = BAD", "stands(-1) = 1", "stands(0) = 0", "stands(1) = BAD", "stands(4) = BAD",
                "stands(5) = BAD", "stands(MIN) = BAD", "stands(MAX) = BAD");
        S.run("read(m01;0,0,0,0,0;s0b-,s0b-,s0b-,s0b-,s0b-) = 5", "stands(-1) = 5", "stands(0) = 0", "stands(1) = 1", "stands(2) = 2",
                "stands(3) = 3", "stands(4) = 4", "stands(5) = BAD", "stands(-2) = BAD");
        S.sentence(18, "of several the first that a call names");
        S.run("stands(-1) = NOT", "stands(0) = BAD", "stands(-2) = BAD", "stands(MIN) = BAD", "stands(MAX) = BAD");
    }

    private static void standsMost() {
        S.sentence(18, "so that most FIELDS are FULL in this HOUR");
        S.run("read(m01;02,-;s0b-) = 1", "stands(-1) = 0", "stands(0) = 0");
        S.run("read(m01;01,12,23,34,45;s00-) = 1", "stands(-1) = 5", "stands(0) = 0");
        // One field more is worth any tiredness.
        S.run("read(m01;0;h0b-) = 1", "stands(-1) = 1", "stands(0) = 0");
        S.run("read(m01;0,0,0,0,0;h0b-,h0b-,h0b-,h0b-,h0b-) = 5", "stands(-1) = 5", "stands(4) = 4");
        S.run("read(m01234;0,0;h0b-,h0b-,h0b-,h0b-,d0b-) = 5", "stands(-1) = 1", "stands(0) = 0", "stands(3) = 0", "stands(4) = 0");
        // The dearest way to fill one of five: four high ones.
        S.run("read(m01234;0,-,-,-,-;h0b-,h0b-,h0b-,h0b-) = 4", "stands(-1) = 1", "stands(0) = 0", "stands(3) = 0");
        S.run("read(m01234;-,-,-,-,0;h0b-,h0b-,h0b-,h0b-,f0b-) = 5", "stands(-1) = 1", "stands(0) = 4", "stands(3) = 4", "stands(4) = 0");
        // Who is too tired fills nothing.
        S.run("read(m01;0,0;s0b0) = 1", "4 x hour() = 1", "stands(-1) = 0", "stands(0) = 0", "hour() = 0", "stands(-1) = 1");
    }

    private static void standsLeast() {
        S.sentence(18, "of these that all together are TIRED by least more (by singing alone)");
        // To sing where it does not get full tires for nothing: home.
        S.run("read(m012;0;s110) = 1", "stands(-1) = 0", "stands(0) = NONE");
        S.run("read(m012;0,-;s110) = 1", "stands(-1) = 0", "stands(0) = 1");
        // The high one would sing first, and dearer.
        S.run("read(m01;0;h0b-,s0b-) = 2", "stands(-1) = 1", "stands(0) = NONE", "stands(1) = 0");
        S.run("read(m01;0,-;h0b-,s0b-) = 2", "stands(0) = 1", "stands(1) = 0");
        S.run("read(m01;1;s0b-,d0b-,f0b-) = 3", "stands(0) = NONE", "stands(1) = NONE", "stands(2) = 0");
        S.run("read(m01;1;s0b-,d0b-) = 2", "stands(0) = NONE", "stands(1) = 0");
        // A farmer tires by nothing: to sing where it does not get full is no worse than to be silent, and no better.
        S.run("read(m047;-,4;f00-) = 1", "stands(-1) = 0", "stands(0) = 0");
        S.run("read(m047;4,-;f00-) = 1", "stands(-1) = 0", "stands(0) = 0");
        // A third tires as a singer: the first of the two stays.
        S.run("read(m01;0;s0b-,t0b-) = 2", "stands(0) = 0", "stands(1) = 0");
        S.run("read(m01;0;t0b-,s0b-) = 2", "stands(0) = 0", "stands(1) = 0");
        // By singing alone: that the first would rest, if the second sang, does not count.
        S.run("read(m01;0;s0b0,t0b-) = 2", "2 x hour() = 1", "singer(0, 3) = 4", "stands(0) = 0", "stands(1) = 0");
    }

    private static void standsFirst() {
        S.sentence(18, "of several the first (SINGER by SINGER the lesser FIELD, HOME last).");
        S.run("read(m01;-;s0b-,s0b-,s0b-,s0b-,s0b-) = 5", "stands(-1) = 0", "stands(0) = 0", "stands(4) = 0");
        S.run("read(m01;0,0;s0b-) = 1", "stands(-1) = 1", "stands(0) = 0");
        S.run("read(m01;0,0;s0b-,s0b-,s0b-) = 3", "stands(-1) = 2", "stands(0) = 0", "stands(1) = 0", "stands(2) = 1");
        // Where all stand now makes no difference.
        S.run("read(m01;0,0;s0b1,s0b0,s0b-) = 3", "stands(-1) = 2", "stands(0) = 0", "stands(1) = 0", "stands(2) = 1", "singer(0, 4) = 1");
        S.run("read(m012;0,0;s110,s110) = 2", "stands(-1) = 0", "stands(0) = NONE", "stands(1) = NONE");
    }

    private static void howlsBounds() {
        S.sentence(19, "`int howls(int field)`: HOWLS, as a set. BAD.");
        S.run("read(m01;0;s0b0) = 1", "howls(-1) = BAD", "howls(0) = 2044", "howls(1) = BAD", "howls(4) = BAD", "howls(5) = BAD",
                "howls(MIN) = BAD", "howls(MAX) = BAD");
        S.run("read(m01;-,-,-,-,0;s0b0) = 1", "howls(4) = 2044", "howls(5) = BAD");
        S.run("howls(0) = BAD", "howls(-1) = BAD");
    }

    private static void howls() {
        S.sentence(19, "HOWLS of a FIELD: PITCHES that do not SOUND there, as a set, each of which, SOUNDING too, would leave it without "
                + "THE CHORD.");
        // Nothing sounds, so one pitch alone always has a chord; a chord that is whole; no chord as it is; 11, 12 sound.
        S.run("read(m01;-,01,02,0123456789a,0123456789ab;s0b0) = 1", "howls(0) = 0", "howls(1) = 4092", "howls(2) = 4090",
                "howls(3) = 2048", "howls(4) = 0");
        S.run("read(m01;b,0,a;s0b0) = 1", "howls(0) = 1022", "howls(1) = 2044", "howls(2) = 511");
        // Of 0 3 6 9 and 0 1 .. 4 all pitches but 5 and 7 stand beside 0.
        S.run("read(m0369,01234;0;s0b0) = 1", "howls(0) = 160");
        S.run("read(m01,0235;0;s0b0) = 1", "howls(0) = 336");
    }

    private static void backBounds() {
        S.sentence(20, "BACK, as a set; NONE. BAD; NOT: nothing SOUNDS.");
        S.run("read(m01;02;s0b0) = 1", "back(-1) = BAD", "back(0) = 1", "back(1) = BAD", "back(4) = BAD", "back(5) = BAD",
                "back(MIN) = BAD", "back(MAX) = BAD");
        S.run("read(m01;-,-,-,-,02;s0b0) = 1", "back(4) = 1", "back(5) = BAD", "back(0) = NOT");
        S.run("read(m01;0;s0b0) = 1", "back(0) = 0", "sound(0, 0) = 0", "back(0) = NOT", "sound(0, 11) = 1", "back(0) = 0");
        S.sentence(20, "of several the first that a call names");
        S.run("back(0) = BAD", "back(-1) = BAD", "read(m01;-;s0b0) = 1", "back(0) = NOT", "back(1) = BAD");
    }

    private static void backFewest() {
        S.sentence(20, "BACK: the fewest PITCHES that SOUND in a FIELD (0 to 3), of as few the least set, without which it has THE CHORD; none.");
        S.run("read(m01;01,012,0123,01234,012345;s0b0) = 1", "back(0) = 0", "back(1) = 1", "back(2) = 3", "back(3) = 7", "back(4) = NONE");
        S.run("read(m01234;01234,012345,01234567,012345678,0123456789ab;s0b0) = 1", "back(0) = 0", "back(1) = 1", "back(2) = 7",
                "back(3) = NONE", "back(4) = NONE");
        // Few goes ahead of least: 1 alone is to go from 0 1 4 7, 0 and 2 from 0 2 4.
        S.run("read(m047;0147,024;s0b0) = 1", "back(0) = 2", "back(1) = 4");
        S.run("read(m01;024,0246,02468;s0b0) = 1", "back(0) = 5", "back(1) = 21", "back(2) = NONE");
        // Only what sounds is sent back: 2 and 4 of 2 4 11 leave 11; 11 is the last that can be.
        S.run("read(m02;24b,0b,b;s0b0) = 1", "back(0) = 2048", "back(1) = 1", "back(2) = 0");
        S.sentence(20, "none, if there is none, or nothing SOUNDS");
        // All of them sent back would leave nothing, and that has no chord.
        S.run("read(m01;036;s0b0) = 1", "back(0) = 9");
    }

    private static void windBounds() {
        S.sentence(21, "WIND: above (what 0), below (1). BAD.");
        S.run("read(m01;0;s0b0) = 1", "wind(-1, 5, 0) = BAD", "wind(0, 5, 0) = 1", "wind(1, 5, 0) = BAD", "wind(5, 5, 0) = BAD",
                "wind(MIN, 5, 0) = BAD", "wind(MAX, 5, 0) = BAD", "wind(0, 5, -1) = BAD", "wind(0, 5, 1) = 2", "wind(0, 5, 2) = BAD",
                "wind(0, 5, MIN) = BAD", "wind(0, 5, MAX) = BAD");
        S.run("read(m01;-,-,-,-,0;s0b4) = 1", "wind(4, 1, 0) = 9", "wind(4, 1, 1) = 10", "wind(5, 1, 0) = BAD");
        S.sentence(21, "WIND, q (0 to 10) of ten");
        S.run("read(m01;0;s0b0) = 1", "wind(0, -1, 0) = BAD", "wind(0, 0, 0) = 1", "wind(0, 0, 1) = 1", "wind(0, 1, 0) = 9",
                "wind(0, 1, 1) = 10", "wind(0, 9, 0) = 1", "wind(0, 9, 1) = 10", "wind(0, 10, 0) = 0", "wind(0, 10, 1) = 1",
                "wind(0, 11, 0) = BAD", "wind(0, MIN, 0) = BAD", "wind(0, MAX, 0) = BAD");
        S.run("read(m01;01,0;s0b0) = 1", "wind(0, 0, 0) = 1", "wind(0, 10, 0) = 1", "wind(0, -1, 0) = BAD", "wind(0, -1, 1) = BAD",
                "wind(0, 11, 0) = BAD", "wind(0, 11, 1) = BAD", "wind(1, 11, 0) = BAD", "wind(1, 11, 1) = BAD", "wind(1, -1, 1) = BAD",
                "wind(1, MAX, 1) = BAD", "wind(1, MIN, 1) = BAD");
        S.run("wind(0, 0, 0) = BAD", "wind(0, 11, 2) = BAD", "wind(-1, 5, 1) = BAD");
    }

    private static void windOdds() {
        S.sentence(21, "Parts are told in lowest terms: above (what 0), below (1).");
        S.run("read(m01;0;s0b0) = 1", "wind(0, 2, 0) = 4", "wind(0, 2, 1) = 5", "wind(0, 3, 0) = 7", "wind(0, 3, 1) = 10",
                "wind(0, 4, 0) = 3", "wind(0, 4, 1) = 5", "wind(0, 6, 0) = 2", "wind(0, 6, 1) = 5", "wind(0, 8, 0) = 1",
                "wind(0, 8, 1) = 5");
        // Nothing is 0 of 1, all is 1 of 1: no chord, nobody there, full by itself.
        S.run("read(m01;-,02,0,01;s0b1,s0b3) = 2", "wind(0, 5, 0) = 0", "wind(0, 5, 1) = 1", "wind(1, 0, 0) = 0", "wind(1, 0, 1) = 1",
                "wind(2, 0, 0) = 0", "wind(2, 0, 1) = 1", "wind(3, 0, 0) = 1", "wind(3, 0, 1) = 1", "wind(3, 5, 0) = 1",
                "wind(3, 5, 1) = 1", "wind(3, 10, 0) = 1", "wind(3, 10, 1) = 1");
        // All four are needed; four of the five are; one of the five is.
        S.run("read(m01234;0;s0b0,s0b0,s0b0,s0b0) = 4", "wind(0, 1, 0) = 6561", "wind(0, 1, 1) = 10000", "wind(0, 5, 0) = 1",
                "wind(0, 5, 1) = 16");
        S.run("read(m01234;0;s0b0,s0b0,s0b0,s0b0,s0b0) = 5", "wind(0, 1, 0) = 45927", "wind(0, 1, 1) = 50000", "wind(0, 0, 0) = 1",
                "wind(0, 10, 0) = 0", "wind(0, 5, 0) = 3", "wind(0, 5, 1) = 16");
        S.run("read(m01;0;s0b0,s0b0,s0b0,s0b0,s0b0) = 5", "wind(0, 9, 0) = 40951", "wind(0, 9, 1) = 100000", "wind(0, 3, 0) = 99757",
                "wind(0, 3, 1) = 100000", "wind(0, 10, 0) = 0", "wind(0, 10, 1) = 1", "wind(0, 0, 0) = 1", "wind(0, 0, 1) = 1");
    }

    private static void windByThemselves() {
        S.sentence(21, "of each who stands in a FIELD and is TIRED by less than 8, by itself, nothing is heard in this HOUR "
                + "(who does not sing then): that the FIELD is FULL.");
        S.run("read(m01;0;s0b0,s0b0) = 2", "3 x hour() = 1", "wind(0, 5, 0) = 3", "wind(0, 5, 1) = 4", "hour() = 1", "singer(0, 3) = 8",
                "wind(0, 5, 0) = 1", "wind(0, 5, 1) = 2", "send(1, -1) = 0", "wind(0, 0, 0) = 0", "wind(0, 0, 1) = 1", "hour() = 0",
                "singer(0, 3) = 7", "wind(0, 5, 0) = 1", "wind(0, 5, 1) = 2");
        // From 4 to 7, 4, 7: full without the first, without the second, and by all, but not without the third.
        S.run("read(m047;0;s470,s440,s770) = 3", "wind(0, 5, 0) = 3", "wind(0, 5, 1) = 8", "wind(0, 0, 0) = 1", "wind(0, 0, 1) = 1");
        // 4, from 4 to 7, 4: the first has to be heard, so that the second is left the 7.
        S.run("read(m047;0;s440,s470,s440) = 3", "wind(0, 5, 0) = 1", "wind(0, 5, 1) = 4");
        // Who stands elsewhere is not heard here.
        S.run("read(m01;0,0;s0b1,s0b-) = 2", "wind(0, 0, 0) = 0", "wind(0, 0, 1) = 1", "wind(1, 5, 0) = 1", "wind(1, 5, 1) = 2");
    }

    private static void decadesBounds() {
        S.sentence(22, "DECADES (n 0 .. 60; a SEED 1 .. 999999): FULL ones (what 0), TIRED (1). BAD; NOT: no VALLEY.");
        S.run("read(m01;1;d0b0) = 1", "hour() = 1", "decades(-1, 1, 0) = BAD", "decades(0, 1, 0) = 0", "decades(0, 1, 1) = 1",
                "decades(60, 1, 0)", "decades(61, 1, 0) = BAD", "decades(61, 1, 1) = BAD", "decades(-1, 1, 1) = BAD",
                "decades(MIN, 1, 0) = BAD", "decades(MAX, 1, 0) = BAD");
        S.run("read(m01;1;d0b0) = 1", "decades(0, 0, 0) = BAD", "decades(0, 1, 0) = 0", "decades(0, 999999, 0) = 0",
                "decades(0, 1000000, 0) = BAD", "decades(0, -1, 0) = BAD", "decades(1, 0, 1) = BAD", "decades(1, 1000000, 1) = BAD",
                "decades(0, MIN, 0) = BAD", "decades(0, MAX, 0) = BAD");
        S.run("read(m01;1;d0b0) = 1", "decades(0, 1, -1) = BAD", "decades(0, 1, 2) = BAD", "decades(0, 1, MIN) = BAD",
                "decades(0, 1, MAX) = BAD");
        S.sentence(22, "of several the first that a call names");
        S.run("decades(0, 1, 0) = NOT", "decades(60, 999999, 1) = NOT", "decades(-1, 1, 0) = BAD", "decades(61, 1, 0) = BAD",
                "decades(0, 0, 0) = BAD", "decades(0, 1000000, 0) = BAD", "decades(0, 1, 2) = BAD", "decades(0, 1, -1) = BAD");
    }

    private static void decadesDraws() {
        S.sentence(22, "each time X becomes the rest of 16807 times X by 2147483647");
        // 16807: pitch 6 in the one field, which then misses 5. 1774597664, of 999999: pitch 2, which then misses 1.
        S.run("read(m01;-;s55-) = 1", "decades(1, 1, 0) = 1", "decades(1, 1, 1) = 2", "decades(1, 999999, 0) = 0", "decades(1, 999999, 1) = 0");
        S.run("read(m01;-;s11-) = 1", "decades(1, 1, 0) = 0", "decades(1, 999999, 0) = 1", "decades(1, 999999, 1) = 2");
        S.sentence(22, "in the FIELD that X leaves by how many there are the PITCH that X by 16 (cut) leaves by 12 SOUNDS, or no more");
        // Of five fields 16807 leaves 2, and sends to field 4.
        S.run("read(m01;-,-,5,-,0;s00-) = 1", "decades(1, 1, 0) = 1", "decades(0, 1, 0) = 0");
        S.run("read(m01;5,5,-,5,5;s00-) = 1", "decades(1, 1, 0) = 0");
        S.run("read(m01;-,-,56,-,-;s00-) = 1", "decades(1, 1, 0) = 0");
        S.run("read(m01;6;s0b0) = 1", "decades(1, 1, 0) = 0", "decades(1, 1, 1) = 0");
        S.sentence(22, "the SINGER that X by 256 (cut) leaves by how many there are is SENT to the FIELD that X by 4096 (cut) leaves by "
                + "how many there are");
        S.run("read(m01;-,-,-,-,0;s0b-) = 1", "decades(1, 1, 0) = 1", "decades(1, 1, 1) = 2");
        S.run("read(m01;0,0,0,0,-;s0b-) = 1", "decades(1, 1, 0) = 0", "decades(1, 1, 1) = 0");
        S.run("read(m01;-,-,-,-,0;s00-,s00-,s11-) = 3", "decades(1, 1, 0) = 1");
        S.run("read(m01;-,-,-,-,0;s11-,s11-,s00-) = 3", "decades(1, 1, 0) = 0");
        S.run("read(m01;-,-,-,-,0;s11-,s00-,s00-,s00-,s00-) = 5", "decades(1, 1, 0) = 1");
        // One who stands there already stays there.
        S.run("read(m01;-,-,-,-,0;s0b4) = 1", "decades(1, 1, 0) = 1");
        S.sentence(22, "then the HOUR passes: how many FIELDS were FULL in all these HOURS together; how much all are TIRED at last.");
        // 16807 begins the 6, which misses 3; 282475249 the 3, so that nothing is missing; 1622650073 the 5, and there is no chord.
        S.run("read(m03;-;s33-) = 1", "decades(1, 1, 0) = 1", "decades(1, 1, 1) = 2", "decades(2, 1, 0) = 2", "decades(2, 1, 1) = 1",
                "decades(3, 1, 0) = 2", "decades(3, 1, 1) = 0", "count(3) = 0", "field(0, 0) = 0", "singer(0, 4) = NONE");
        // Several in one hour, each counted.
        S.run("read(m01;01,12,23,34,-;s00-) = 1", "decades(1, 1, 0) = 3", "decades(0, 1, 0) = 0");
    }

    /** What is foretold comes, when the same is acted: the twin that was asked and the one that acts agree. */
    private static void asIfActed() {
        String[] texts = {
            TEXT, "m01;-;s0b-", "m0369,0235,01;0,2,5b,-,01;s0b0,h0b-,t0b2,d0b3,f0b4", "m047,037;-,-;f0b0,f0b1,t0b0",
            "m01;01,12,23,34,45;h0b0,h0b1,h0b2,h0b3,h0b4",
        };
        for (String text : texts) {
            for (int seed : new int[] {1, 2, 4711, 127773, 999998, 999999}) {
                decadesActed(text, seed);
            }
            CHECK.promise(16);
            MissingNote x = Check.valley(text);
            MissingNote y = Check.valley(text);
            for (int n = 1; n <= 60; n++) {
                CHECK.due("ahead(" + n + ", 0) of " + text, y.ahead(n, 0), x.hour());
                CHECK.due("ahead(" + n + ", 1) of " + text, y.ahead(n, 1), x.count(4));
            }
        }
    }

    private static void decadesActed(String text, int seed) {
        CHECK.promise(22);
        MissingNote x = Check.valley(text);
        MissingNote y = Check.valley(text);
        BigInteger drawn = BigInteger.valueOf(seed);
        int full = 0;
        for (int n = 1; n <= 60; n++) {
            drawn = drawn.multiply(BigInteger.valueOf(16807)).mod(BigInteger.valueOf(2147483647));
            x.sound(left(drawn, 1, y.count(1)), left(drawn, 16, 12));
            x.send(left(drawn, 256, y.count(0)), left(drawn, 4096, y.count(1)));
            full += Integer.bitCount(x.hour());
            CHECK.due("decades(" + n + ", " + seed + ", 0) of " + text, y.decades(n, seed, 0), full);
            CHECK.due("decades(" + n + ", " + seed + ", 1) of " + text, y.decades(n, seed, 1), x.count(4));
        }
    }

    private static int left(BigInteger drawn, int by, int many) {
        return drawn.divide(BigInteger.valueOf(by)).mod(BigInteger.valueOf(many)).intValue();
    }
}
