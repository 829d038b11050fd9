import java.util.Arrays;

/**
 * A valley, what sounds in its fields, and the choir that puts in what is missing.
 * README.md says how to use it; the numbered promises stand in the project's document.
 */
public final class MissingNote {
    public static final int BAD = -1, NOT = -2, FULL = -3, NONE = -4, NULL = -11, CAST = -12, INDEX = -13, SIZE = -14;

    private static final int TAPE_BYTES = 130;
    private static final int FAULT = -100;
    private static final int MOST_SHAPES = 4;
    private static final int MOST_FIELDS = 5;
    private static final int MOST_SINGERS = 5;
    private static final int CROWDS = 32;
    private static final int PITCHES = 12;
    private static final int SETS = 4096;
    private static final int NOTHING = 12;
    private static final int HOME = -1;
    private static final int TOO_TIRED = 8;
    private static final int LAST_HOUR = 9999;
    private static final int MOST_ACTS = 24;
    private static final int IMAGES = 2;
    private static final int MOST_AHEAD = 60;
    private static final int MOST_BACK = 3;
    private static final int LAST_SEED = 999999;
    private static final int SHEETS = 4;
    private static final int LANES = 4;
    private static final int MOST_ITEMS = 24;
    private static final int MOST_PAIRS = 6;

    private static final int SINGER = 1;
    private static final int HIGH = 2;
    private static final int THIRD = 3;
    private static final int DRONE = 4;
    private static final int FARMER = 5;
    private static final int KINDS = 6;
    /** For each kind, as a set, what one of it is: the kind itself and all that are over it. */
    private static final int[] IS = {1, 3, 7, 11, 17, 49};
    /** For each kind by how much more one is tired who sang. */
    private static final int[] EFFORT = {0, 2, 3, 2, 1, 0};

    private final Tape tape = new Tape();
    private final Valley now = new Valley();
    /** Holds a valley while it is read, and one that is foretold: nothing in it outlasts a call. */
    private final Valley draft = new Valley();
    private final Valley[] images = new Valley[IMAGES];
    private final Acts acts = new Acts();
    private final Choir choir = new Choir();
    private final Chords chords = choir.chords;
    private final Stations stations = new Stations();
    private final Ear ear = new Ear();
    private final Sheet[] sheets = new Sheet[SHEETS];

    public MissingNote() {
        for (int k = 0; k < IMAGES; k++) {
            images[k] = new Valley();
        }
        for (int k = 0; k < SHEETS; k++) {
            sheets[k] = new Sheet();
        }
    }

    // ---- 1 what is told

    public int feed(int letter) {
        if (!within(letter, 256)) {
            return BAD;
        }
        return tape.size < TAPE_BYTES ? tape.put(letter) : FULL;
    }

    public int valley() {
        boolean whole = tape.readValley(draft);
        tape.size = 0;
        if (!whole) {
            return FAULT - tape.place;
        }
        begin(draft);
        return now.singerCount;
    }

    public int shape(int shape) {
        return within(shape, now.shapeCount) ? now.shapes[shape] : BAD;
    }

    public int field(int field, int what) {
        if (!isField(field) || !within(what, 5)) {
            return BAD;
        }
        switch (what) {
            case 0:
                return now.sounds[field];
            case 4:
                return now.standing(field);
            default:
                return tellChord(now.sounds[field], what - 1);
        }
    }

    public int singer(int singer, int what) {
        if (!isSinger(singer) || !within(what, 5)) {
            return BAD;
        }
        switch (what) {
            case 0:
                return now.kind[singer];
            case 1:
                return now.low[singer];
            case 2:
                return now.high[singer];
            case 3:
                return now.tired[singer];
            default:
                return tellPlace(now.place[singer]);
        }
    }

    public int as(int singer, int kind) {
        if (!isSinger(singer) || !within(kind, KINDS)) {
            return BAD;
        }
        return has(IS[now.kind[singer]], kind) ? singer : CAST;
    }

    public int chord(int set, int what) {
        if (!within(set, SETS) || !within(what, 3) || !now.isThere()) {
            return BAD;
        }
        return tellChord(set, what);
    }

    // ---- 2 acts

    public int hour() {
        if (!now.isThere() || now.hour >= LAST_HOUR) {
            return NOT;
        }
        acts.keep(Acts.PASSED, now.packTired(), 0);
        return choir.passHour(now);
    }

    public int send(int singer, int field) {
        if (!isSinger(singer) || (field != HOME && !isField(field))) {
            return BAD;
        }
        int before = now.place[singer];
        if (before == field) {
            return NOT;
        }
        acts.keep(Acts.SENT, singer, before);
        now.place[singer] = field;
        return tellPlace(before);
    }

    public int sound(int field, int pitch) {
        if (!isField(field) || !within(pitch, PITCHES)) {
            return BAD;
        }
        acts.keep(Acts.SOUNDED, field, pitch);
        now.turnPitch(field, pitch);
        return has(now.sounds[field], pitch) ? 1 : 0;
    }

    public int undo() {
        if (acts.size == 0) {
            return NONE;
        }
        acts.takeBack(now);
        return acts.size;
    }

    public int image(int k) {
        if (!within(k, IMAGES)) {
            return BAD;
        }
        if (!now.isThere()) {
            return NOT;
        }
        images[k].become(now);
        return now.hour;
    }

    public int restore(int k) {
        if (!within(k, IMAGES)) {
            return BAD;
        }
        if (!images[k].isThere()) {
            return NOT;
        }
        begin(images[k]);
        return now.hour;
    }

    // ---- 3 foretold

    public int sings(int singer) {
        if (!isSinger(singer)) {
            return BAD;
        }
        choir.singAll(now);
        int pitch = choir.song[singer];
        return pitch == NOTHING ? NONE : pitch;
    }

    public int ahead(int n, int what) {
        if (!within(what, 2) || n < 1 - what || n > MOST_AHEAD) {
            return BAD;
        }
        if (!now.isThere()) {
            return NOT;
        }
        draft.become(now);
        int full = 0;
        for (int k = 0; k < n; k++) {
            full = choir.passHour(draft);
        }
        return what == 0 ? full : draft.tiredInAll();
    }

    public int fills(int field) {
        if (!isField(field)) {
            return BAD;
        }
        int best = NONE;
        int fewest = MOST_SINGERS + 1;
        for (int who = 0; who < 1 << now.singerCount; who++) {
            if (Integer.bitCount(who) < fewest && choir.sing(now, field, who)) {
                best = who;
                fewest = Integer.bitCount(who);
            }
        }
        return best;
    }

    public int stands(int singer) {
        if (singer != -1 && !isSinger(singer)) {
            return BAD;
        }
        if (!now.isThere()) {
            return NOT;
        }
        stations.find(now, choir);
        return singer == -1 ? stations.fullFields() : tellPlace(stations.bestPlace(singer));
    }

    public int howls(int field) {
        if (!isField(field)) {
            return BAD;
        }
        int howling = 0;
        for (int pitch = 0; pitch < PITCHES; pitch++) {
            int more = now.sounds[field] | 1 << pitch;
            if (more != now.sounds[field] && !chords.isThere(more)) {
                howling |= 1 << pitch;
            }
        }
        return howling;
    }

    public int back(int field) {
        if (!isField(field)) {
            return BAD;
        }
        int sounds = now.sounds[field];
        if (sounds == 0) {
            return NOT;
        }
        int best = NONE;
        int fewest = MOST_BACK + 1;
        for (int sent = 0; sent <= sounds; sent++) {
            boolean fewer = (sent & ~sounds) == 0 && Integer.bitCount(sent) < fewest;
            if (fewer && chords.isThere(sounds & ~sent)) {
                best = sent;
                fewest = Integer.bitCount(sent);
            }
        }
        return best;
    }

    public int wind(int field, int q, int what) {
        if (!isField(field) || !within(q, 11) || !within(what, 2)) {
            return BAD;
        }
        int able = now.standing(field) & now.rested();
        int above = 0;
        for (int heard = 0; heard < CROWDS; heard++) {
            if ((heard & ~able) == 0 && choir.sing(now, field, heard)) {
                above += power(10 - q, Integer.bitCount(heard)) * power(q, Integer.bitCount(able & ~heard));
            }
        }
        int below = power(10, Integer.bitCount(able));
        int shared = sharedDivisor(above, below);
        return (what == 0 ? above : below) / shared;
    }

    public int decades(int n, int seed, int what) {
        if (n < 0 || n > MOST_AHEAD || seed < 1 || seed > LAST_SEED || !within(what, 2)) {
            return BAD;
        }
        if (!now.isThere()) {
            return NOT;
        }
        draft.become(now);
        long x = seed;
        int full = 0;
        for (int k = 0; k < n; k++) {
            x = 16807L * x % 2147483647L;
            draft.disturb(x);
            full += Integer.bitCount(choir.passHour(draft));
        }
        return what == 0 ? full : draft.tiredInAll();
    }

    // ---- 4 sheets

    public int sheet(int sheet, int lane, int n) {
        if (!within(sheet, SHEETS) || !within(lane, LANES) || n > MOST_ITEMS) {
            return BAD;
        }
        if (n < 0) {
            return SIZE;
        }
        sheets[sheet].begin(lane, n);
        return n;
    }

    public int drop(int sheet) {
        if (!within(sheet, SHEETS)) {
            return BAD;
        }
        if (!sheets[sheet].isThere()) {
            return NULL;
        }
        int had = sheets[sheet].size;
        sheets[sheet].end();
        return had;
    }

    public long item(int sheet, int lane, int i, long v) {
        int refused = refusal(sheet, lane, i, 1);
        if (refused != 0) {
            return refused;
        }
        sheets[sheet].put(i, v);
        return sheets[sheet].items[i];
    }

    public int copy(int from, int i, int to, int j, int n) {
        if (!within(from, SHEETS) || !within(to, SHEETS)) {
            return BAD;
        }
        Sheet source = sheets[from];
        Sheet target = sheets[to];
        if (!source.isThere() || !target.isThere()) {
            return NULL;
        }
        if (source.lane != target.lane) {
            return CAST;
        }
        if (!source.holds(i, n) || !target.holds(j, n)) {
            return INDEX;
        }
        System.arraycopy(source.items, i, target.items, j, n);
        return n;
    }

    public int log(int sheet, int lane, int i) {
        if (!now.isThere()) {
            return BAD;
        }
        int refused = refusal(sheet, lane, i, now.singerCount);
        if (refused != 0) {
            return refused;
        }
        choir.singAll(now);
        for (int singer = 0; singer < now.singerCount; singer++) {
            sheets[sheet].put(i + singer, choir.song[singer]);
        }
        return now.singerCount;
    }

    public int sounded(int sheet, int lane, int i, int n, int what) {
        if (!now.isThere() || n < 1 || n > MOST_PAIRS || !within(what, 3)) {
            return BAD;
        }
        int refused = refusal(sheet, lane, i, 2 * n);
        if (refused != 0) {
            return refused;
        }
        if (!sheets[sheet].holdsPairs(i, n, now.singerCount)) {
            return NOT;
        }
        ear.listen(now, choir, sheets[sheet], i, n);
        switch (what) {
            case 0:
                return ear.found;
            case 1:
                return ear.found == 0 ? NONE : ear.least;
            default:
                return ear.found == 0 ? NONE : ear.bestToHear(now.singerCount);
        }
    }

    public int kinds(int singer, int sheet, int lane, int i, int n) {
        if (!isSinger(singer) || n < 1 || n > MOST_PAIRS) {
            return BAD;
        }
        int refused = refusal(sheet, lane, i, 2 * n);
        if (refused != 0) {
            return refused;
        }
        if (!sheets[sheet].holdsPairs(i, n, SETS)) {
            return NOT;
        }
        int may = 0;
        for (int kind = SINGER; kind < KINDS; kind++) {
            if (agrees(kind, now.range(singer), sheets[sheet], i, n)) {
                may |= 1 << kind;
            }
        }
        return may;
    }

    public int count(int what) {
        switch (what) {
            case 0:
                return now.singerCount;
            case 1:
                return now.fieldCount;
            case 2:
                return now.shapeCount;
            case 3:
                return now.hour;
            case 4:
                return now.tiredInAll();
            case 5:
                return fieldsWithChord(false);
            case 6:
                return fieldsWithChord(true);
            case 7:
                return acts.size;
            case 8:
                return tape.size;
            default:
                return BAD;
        }
    }

    // ---- what the calls share

    private static boolean within(int n, int end) {
        return n >= 0 && n < end;
    }

    private static boolean has(int set, int member) {
        return (set >> member & 1) == 1;
    }

    private boolean isField(int field) {
        return within(field, now.fieldCount);
    }

    private boolean isSinger(int singer) {
        return within(singer, now.singerCount);
    }

    private static int tellPlace(int place) {
        return place == HOME ? NONE : place;
    }

    private int tellChord(int set, int what) {
        switch (what) {
            case 0:
                return chords.shapeOf(set);
            case 1:
                return chords.rootOf(set);
            default:
                return chords.missingOf(set);
        }
    }

    /** The chords hang on the shapes and the acts on the fields, so neither may outlast the valley before. */
    private void begin(Valley other) {
        now.become(other);
        chords.learn(now);
        acts.forget();
    }

    private int fieldsWithChord(boolean nothingMissing) {
        int fields = 0;
        for (int field = 0; field < now.fieldCount; field++) {
            int set = now.sounds[field];
            if (chords.isThere(set) && (!nothingMissing || chords.missingOf(set) == 0)) {
                fields |= 1 << field;
            }
        }
        return fields;
    }

    private static int power(int base, int times) {
        int product = 1;
        for (int k = 0; k < times; k++) {
            product *= base;
        }
        return product;
    }

    /** At least 1, so that it always divides; 64 steps are more than two ints can need. */
    private static int sharedDivisor(int a, int b) {
        int greater = a;
        int lesser = b;
        for (int step = 0; step < 64 && lesser != 0; step++) {
            int rest = greater % lesser;
            greater = lesser;
            lesser = rest;
        }
        return Math.max(1, greater);
    }

    /** Why n items from i on of a sheet, taken as a row of a lane, cannot be used; 0 if they can. */
    private int refusal(int sheet, int lane, int i, int n) {
        if (!within(sheet, SHEETS) || !within(lane, LANES)) {
            return BAD;
        }
        if (!sheets[sheet].isThere()) {
            return NULL;
        }
        if (sheets[sheet].lane != lane) {
            return CAST;
        }
        return sheets[sheet].holds(i, n) ? 0 : INDEX;
    }

    private boolean agrees(int kind, int range, Sheet pairs, int i, int n) {
        for (int k = 0; k < n; k++) {
            int set = (int) pairs.items[i + 2 * k];
            if (choir.alone(kind, range, set) != pairs.items[i + 2 * k + 1]) {
                return false;
            }
        }
        return true;
    }

    /** All that an image keeps: what a tape told, what has changed of it, who is how tired, the hour. */
    private static final class Valley {
        int shapeCount;
        int fieldCount;
        int singerCount;
        int hour;
        final int[] shapes = new int[MOST_SHAPES];
        final int[] sounds = new int[MOST_FIELDS];
        final int[] kind = new int[MOST_SINGERS];
        final int[] low = new int[MOST_SINGERS];
        final int[] high = new int[MOST_SINGERS];
        final int[] place = new int[MOST_SINGERS];
        final int[] tired = new int[MOST_SINGERS];

        boolean isThere() {
            return fieldCount > 0 && singerCount > 0;
        }

        void clear() {
            shapeCount = 0;
            fieldCount = 0;
            singerCount = 0;
            hour = 0;
            Arrays.fill(tired, 0);
        }

        void become(Valley other) {
            shapeCount = other.shapeCount;
            fieldCount = other.fieldCount;
            singerCount = other.singerCount;
            hour = other.hour;
            System.arraycopy(other.shapes, 0, shapes, 0, MOST_SHAPES);
            System.arraycopy(other.sounds, 0, sounds, 0, MOST_FIELDS);
            System.arraycopy(other.kind, 0, kind, 0, MOST_SINGERS);
            System.arraycopy(other.low, 0, low, 0, MOST_SINGERS);
            System.arraycopy(other.high, 0, high, 0, MOST_SINGERS);
            System.arraycopy(other.place, 0, place, 0, MOST_SINGERS);
            System.arraycopy(other.tired, 0, tired, 0, MOST_SINGERS);
        }

        void turnPitch(int field, int pitch) {
            sounds[field] ^= 1 << pitch;
        }

        /** One hour's draw of the decades. */
        void disturb(long x) {
            if (!isThere()) {
                return;
            }
            turnPitch((int) (x % fieldCount), (int) (x / 16 % PITCHES));
            place[(int) (x / 256 % singerCount)] = (int) (x / 4096 % fieldCount);
        }

        int range(int singer) {
            return (2 << high[singer]) - (1 << low[singer]);
        }

        int standing(int field) {
            int who = 0;
            for (int singer = 0; singer < singerCount; singer++) {
                if (place[singer] == field) {
                    who |= 1 << singer;
                }
            }
            return who;
        }

        /** Those who are not too tired to sing. */
        int rested() {
            int who = 0;
            for (int singer = 0; singer < singerCount; singer++) {
                if (tired[singer] < TOO_TIRED) {
                    who |= 1 << singer;
                }
            }
            return who;
        }

        int tiredInAll() {
            int sum = 0;
            for (int singer = 0; singer < singerCount; singer++) {
                sum += tired[singer];
            }
            return sum;
        }

        /** Four bits each are enough: who is tired by 7 and sings is tired by 10 at most. */
        int packTired() {
            int packed = 0;
            for (int singer = 0; singer < singerCount; singer++) {
                packed |= tired[singer] << 4 * singer;
            }
            return packed;
        }

        void unpackTired(int packed) {
            for (int singer = 0; singer < singerCount; singer++) {
                tired[singer] = packed >> 4 * singer & 15;
            }
        }
    }

    /** The bytes that came, and how a valley is read from them: place stops at the first that cannot stand there. */
    private static final class Tape {
        final int[] bytes = new int[TAPE_BYTES];
        int size;
        int place;

        int put(int letter) {
            if (size < TAPE_BYTES) {
                bytes[size] = letter;
                size++;
            }
            return size;
        }

        boolean readValley(Valley v) {
            place = 0;
            v.clear();
            return take('m') && readShapes(v) && take(';') && readFields(v) && take(';') && readSingers(v)
                    && place == size;
        }

        /** The byte at the place, -1 at the end. */
        private int peek() {
            return place < size ? bytes[place] : -1;
        }

        private boolean take(int letter) {
            if (peek() != letter) {
                return false;
            }
            place++;
            return true;
        }

        /** The pitch at the place, -1 if there is none. */
        private int peekPitch() {
            int letter = peek();
            if (letter >= '0' && letter <= '9') {
                return letter - '0';
            }
            return letter == 'a' || letter == 'b' ? letter - 'a' + 10 : -1;
        }

        private int takeRising(int most) {
            int set = 0;
            int last = -1;
            for (int k = 0; k < most && peekPitch() > last; k++) {
                last = peekPitch();
                set |= 1 << last;
                place++;
            }
            return set;
        }

        private boolean readShapes(Valley v) {
            for (int k = 0; k < MOST_SHAPES; k++) {
                if (k > 0 && !take(',')) {
                    return true;
                }
                if (!readShape(v, k)) {
                    return false;
                }
                v.shapeCount = k + 1;
            }
            return true;
        }

        private boolean readShape(Valley v, int k) {
            if (peekPitch() != 0) {
                return false;
            }
            v.shapes[k] = takeRising(Chords.MOST_NOTES);
            return Integer.bitCount(v.shapes[k]) >= Chords.LEAST_NOTES;
        }

        private boolean readFields(Valley v) {
            for (int k = 0; k < MOST_FIELDS; k++) {
                if (k > 0 && !take(',')) {
                    return true;
                }
                boolean silent = take('-');
                v.sounds[k] = silent ? 0 : takeRising(PITCHES);
                if (!silent && v.sounds[k] == 0) {
                    return false;
                }
                v.fieldCount = k + 1;
            }
            return true;
        }

        private boolean readSingers(Valley v) {
            for (int k = 0; k < MOST_SINGERS; k++) {
                if (k > 0 && !take(',')) {
                    return true;
                }
                if (!readKind(v, k) || !readRange(v, k) || !readPlace(v, k)) {
                    return false;
                }
                v.singerCount = k + 1;
            }
            return true;
        }

        private boolean readKind(Valley v, int k) {
            switch (peek()) {
                case 's':
                    v.kind[k] = SINGER;
                    break;
                case 'h':
                    v.kind[k] = HIGH;
                    break;
                case 't':
                    v.kind[k] = THIRD;
                    break;
                case 'd':
                    v.kind[k] = DRONE;
                    break;
                case 'f':
                    v.kind[k] = FARMER;
                    break;
                default:
                    return false;
            }
            place++;
            return true;
        }

        private boolean readRange(Valley v, int k) {
            v.low[k] = peekPitch();
            if (v.low[k] < 0) {
                return false;
            }
            place++;
            v.high[k] = peekPitch();
            if (v.high[k] < v.low[k]) {
                return false;
            }
            place++;
            return true;
        }

        private boolean readPlace(Valley v, int k) {
            if (take('-')) {
                v.place[k] = HOME;
                return true;
            }
            v.place[k] = peek() - '0';
            if (!within(v.place[k], v.fieldCount)) {
                return false;
            }
            place++;
            return true;
        }
    }

    /** THE CHORD of every set, by the shapes of a valley. A chord's number is its shape times 12, and its root. */
    private static final class Chords {
        static final int LEAST_NOTES = 2;
        static final int MOST_NOTES = 5;
        private static final int NO_CHORD = -1;

        private final int[] notes = new int[MOST_SHAPES * PITCHES];
        private final int[] best = new int[SETS];

        /** The chords that come first in the document's order are learned last, and so stand over the others. */
        void learn(Valley v) {
            Arrays.fill(best, NO_CHORD);
            for (int size = MOST_NOTES; size >= LEAST_NOTES; size--) {
                for (int k = v.shapeCount - 1; k >= 0; k--) {
                    if (Integer.bitCount(v.shapes[k]) == size) {
                        learnShape(k, v.shapes[k]);
                    }
                }
            }
        }

        private void learnShape(int k, int set) {
            for (int root = PITCHES - 1; root >= 0; root--) {
                int number = k * PITCHES + root;
                notes[number] = (set << root | set >> PITCHES - root) & SETS - 1;
                claimParts(number);
            }
        }

        /** A set of n pitches has 2 to the n parts, less the empty one, which has no chord. */
        private void claimParts(int number) {
            int parts = 1 << Integer.bitCount(notes[number]);
            int part = notes[number];
            for (int k = 1; k < parts; k++) {
                best[part] = number;
                part = part - 1 & notes[number];
            }
        }

        boolean isThere(int set) {
            return best[set] != NO_CHORD;
        }

        int shapeOf(int set) {
            return isThere(set) ? best[set] / PITCHES : NONE;
        }

        int rootOf(int set) {
            return isThere(set) ? best[set] % PITCHES : NONE;
        }

        int missingOf(int set) {
            return isThere(set) ? notes[best[set]] & ~set : 0;
        }
    }

    /** Who sings what. */
    private static final class Choir {
        /** What each singer sang at last, a pitch or NOTHING. */
        final int[] song = new int[MOST_SINGERS];
        final Chords chords = new Chords();

        /** Those of a set sing in a field as if they alone stood there: whether it is full by them. */
        boolean sing(Valley v, int field, int who) {
            int set = v.sounds[field];
            int able = who & v.rested();
            int missing = chords.missingOf(set);
            for (int singer = 0; singer < v.singerCount; singer++) {
                if (has(who, singer)) {
                    song[singer] = NOTHING;
                }
                if (has(able, singer)) {
                    song[singer] = choose(v.kind[singer], chords.rootOf(set), missing & v.range(singer));
                    missing &= ~(1 << song[singer]);
                }
            }
            return chords.isThere(set) && missing == 0;
        }

        /** All sing where they stand: the fields that are full. */
        int singAll(Valley v) {
            Arrays.fill(song, NOTHING);
            int full = 0;
            for (int field = 0; field < v.fieldCount; field++) {
                if (sing(v, field, v.standing(field))) {
                    full |= 1 << field;
                }
            }
            return full;
        }

        int passHour(Valley v) {
            int full = singAll(v);
            for (int singer = 0; singer < v.singerCount; singer++) {
                int more = song[singer] == NOTHING ? -1 : EFFORT[v.kind[singer]];
                v.tired[singer] = Math.max(0, v.tired[singer] + more);
            }
            v.hour++;
            return full;
        }

        /** By how much more those of a set are tired by what they sang at last. */
        int effortOf(Valley v, int who) {
            int sum = 0;
            for (int singer = 0; singer < v.singerCount; singer++) {
                if (has(who, singer) && song[singer] != NOTHING) {
                    sum += EFFORT[v.kind[singer]];
                }
            }
            return sum;
        }

        /** What one of a kind and a range would sing alone where a set sounds. */
        int alone(int kind, int range, int set) {
            return choose(kind, chords.rootOf(set), chords.missingOf(set) & range);
        }

        /** The root is looked at only where something may be sung, and so only where there is a chord. */
        private static int choose(int kind, int root, int may) {
            if (may == 0) {
                return NOTHING;
            }
            switch (kind) {
                case HIGH:
                    return greatest(may);
                case THIRD:
                    return firstOf(may, above(root, 3), above(root, 4), least(may));
                case DRONE:
                    return firstOf(may, root, NOTHING, NOTHING);
                case FARMER:
                    return firstOf(may, root, above(root, 7), NOTHING);
                default:
                    return least(may);
            }
        }

        /** The first of two pitches that may be sung, or else what stands last. NOTHING is in no set. */
        private static int firstOf(int may, int pitch, int other, int last) {
            if (has(may, pitch)) {
                return pitch;
            }
            return has(may, other) ? other : last;
        }

        private static int above(int root, int by) {
            return (root + by) % PITCHES;
        }

        private static int least(int set) {
            for (int pitch = 0; pitch < PITCHES; pitch++) {
                if (has(set, pitch)) {
                    return pitch;
                }
            }
            return NOTHING;
        }

        private static int greatest(int set) {
            for (int pitch = PITCHES - 1; pitch >= 0; pitch--) {
                if (has(set, pitch)) {
                    return pitch;
                }
            }
            return NOTHING;
        }
    }

    /** The latest acts, each with what is needed to take it back. */
    private static final class Acts {
        static final int PASSED = 0;
        static final int SENT = 1;
        static final int SOUNDED = 2;

        int size;
        /** Where the next act is kept; the rows go round. */
        private int next;
        private final int[] act = new int[MOST_ACTS];
        private final int[] of = new int[MOST_ACTS];
        private final int[] was = new int[MOST_ACTS];

        void forget() {
            size = 0;
            next = 0;
        }

        void keep(int what, int ofWhat, int before) {
            act[next] = what;
            of[next] = ofWhat;
            was[next] = before;
            next = (next + 1) % MOST_ACTS;
            size = Math.min(MOST_ACTS, size + 1);
        }

        void takeBack(Valley v) {
            next = (next + MOST_ACTS - 1) % MOST_ACTS;
            size--;
            switch (act[next]) {
                case PASSED:
                    v.unpackTired(of[next]);
                    v.hour--;
                    break;
                case SENT:
                    v.place[of[next]] = was[next];
                    break;
                default:
                    v.turnPitch(of[next], was[next]);
                    break;
            }
        }
    }

    /** Where all should stand. Home is told here as the field behind the last, as it comes last. */
    private static final class Stations {
        /** More than all singers together can be tired by, so that one field more outweighs any effort. */
        private static final int FULL_FIELD = 16;

        private final int[] worth = new int[MOST_FIELDS * CROWDS];
        private final int[] at = new int[MOST_SINGERS];
        private final int[] crowd = new int[MOST_FIELDS + 1];
        private final int[] bestAt = new int[MOST_SINGERS];
        private int bestWorth;
        private int home;

        void find(Valley v, Choir choir) {
            home = v.fieldCount;
            weigh(v, choir);
            Arrays.fill(at, 0);
            Arrays.fill(crowd, 0);
            crowd[0] = (1 << v.singerCount) - 1;
            bestWorth = -FULL_FIELD;
            int ways = power(home + 1, v.singerCount);
            for (int way = 0; way < ways; way++) {
                int sum = worthOfAll();
                if (sum > bestWorth) {
                    bestWorth = sum;
                    System.arraycopy(at, 0, bestAt, 0, MOST_SINGERS);
                }
                turn(v.singerCount);
            }
        }

        int fullFields() {
            return (bestWorth + FULL_FIELD - 1) / FULL_FIELD;
        }

        int bestPlace(int singer) {
            return bestAt[singer] == home ? HOME : bestAt[singer];
        }

        private void weigh(Valley v, Choir choir) {
            for (int field = 0; field < v.fieldCount; field++) {
                for (int who = 0; who < 1 << v.singerCount; who++) {
                    int full = choir.sing(v, field, who) ? FULL_FIELD : 0;
                    worth[field * CROWDS + who] = full - choir.effortOf(v, who);
                }
            }
        }

        private int worthOfAll() {
            int sum = 0;
            for (int field = 0; field < home; field++) {
                sum += worth[field * CROWDS + crowd[field]];
            }
            return sum;
        }

        /** The next way in the document's order: the last singer goes on first, as a figure that counts. */
        private void turn(int singers) {
            for (int singer = singers - 1; singer >= 0; singer--) {
                crowd[at[singer]] ^= 1 << singer;
                at[singer] = at[singer] == home ? 0 : at[singer] + 1;
                crowd[at[singer]] ^= 1 << singer;
                if (at[singer] != 0) {
                    return;
                }
            }
        }
    }

    /** Which sets sounded, by what singers sang alone, and whom to hear next. */
    private static final class Ear {
        private static final int SONGS = PITCHES + 1;

        int found;
        int least;
        private final int[] who = new int[MOST_PAIRS];
        private final int[] sang = new int[MOST_PAIRS];
        /** For each singer and song the sets found by which one would sing it. */
        private final int[] parts = new int[MOST_SINGERS * SONGS];

        void listen(Valley v, Choir choir, Sheet pairs, int i, int n) {
            for (int k = 0; k < n; k++) {
                who[k] = (int) pairs.items[i + 2 * k];
                sang[k] = (int) pairs.items[i + 2 * k + 1];
            }
            found = 0;
            least = 0;
            Arrays.fill(parts, 0);
            for (int set = 1; set < SETS; set++) {
                if (agrees(v, choir, set, n)) {
                    least = found == 0 ? set : least;
                    found++;
                    sort(v, choir, set);
                }
            }
        }

        int bestToHear(int singers) {
            int best = NONE;
            int fewest = SETS;
            for (int singer = 0; singer < singers; singer++) {
                int greatest = 0;
                for (int song = 0; song < SONGS; song++) {
                    greatest = Math.max(greatest, parts[singer * SONGS + song]);
                }
                if (greatest < fewest) {
                    best = singer;
                    fewest = greatest;
                }
            }
            return best;
        }

        private boolean agrees(Valley v, Choir choir, int set, int n) {
            for (int k = 0; k < n; k++) {
                if (choir.alone(v.kind[who[k]], v.range(who[k]), set) != sang[k]) {
                    return false;
                }
            }
            return true;
        }

        private void sort(Valley v, Choir choir, int set) {
            for (int singer = 0; singer < v.singerCount; singer++) {
                int song = choir.alone(v.kind[singer], v.range(singer), set);
                parts[singer * SONGS + song]++;
            }
        }
    }

    /** Nothing, or a row of a lane: the items are longs that are cut to the lane as they come. */
    private static final class Sheet {
        private static final int NO_LANE = -1;

        int lane = NO_LANE;
        int size;
        final long[] items = new long[MOST_ITEMS];

        boolean isThere() {
            return lane != NO_LANE;
        }

        void begin(int newLane, int n) {
            lane = newLane;
            size = n;
            Arrays.fill(items, 0L);
        }

        void end() {
            lane = NO_LANE;
            size = 0;
        }

        boolean holds(int i, int n) {
            return n >= 0 && n <= size && i >= 0 && i <= size - n;
        }

        /** Whether of n pairs from i on each first item is 0 or more and below an end, each second a pitch or 12. */
        boolean holdsPairs(int i, int n, int end) {
            for (int k = 0; k < n; k++) {
                long first = items[i + 2 * k];
                long second = items[i + 2 * k + 1];
                if (first < 0 || first >= end || second < 0 || second > NOTHING) {
                    return false;
                }
            }
            return true;
        }

        void put(int i, long v) {
            switch (lane) {
                case 0:
                    items[i] = (byte) v;
                    break;
                case 1:
                    items[i] = (short) v;
                    break;
                case 2:
                    items[i] = (int) v;
                    break;
                default:
                    items[i] = v;
                    break;
            }
        }
    }
}
