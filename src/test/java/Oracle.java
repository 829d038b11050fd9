import java.math.BigInteger;
import java.util.ArrayDeque;
import java.util.ArrayList;
import java.util.Arrays;
import java.util.Collections;
import java.util.Deque;
import java.util.List;
import java.util.TreeSet;
import java.util.regex.Matcher;
import java.util.regex.Pattern;

/**
 * The document once more, as slowly and plainly as it can be told, to try the class against.
 * It shares no code and no way of working with it: sets are TreeSets, a valley is matched by a pattern, an act
 * is undone by the valley that was kept ahead of it, each foretelling is played through.
 */
final class Oracle {
    private static final String RISING = "0?1?2?3?4?5?6?7?8?9?a?b?";
    private static final String PITCH = "[0-9ab]";
    private static final String FIGURES = "0123456789ab";
    private static final String SHAPE = "0" + above(0, 4);
    private static final String FIELD = "(?:-|(?=" + PITCH + ")" + RISING + ")";
    private static final String LETTERS = "-shtdf";
    private static final List<Pattern> VALLEYS = new ArrayList<>();

    static {
        StringBuilder ranges = new StringBuilder();
        for (int low = 0; low < 12; low++) {
            ranges.append(low == 0 ? "" : "|").append(FIGURES.charAt(low)).append('[').append(FIGURES.substring(low)).append(']');
        }
        for (int fields = 1; fields <= 5; fields++) {
            String singer = "[shtdf](?:" + ranges + ")[-0-" + (fields - 1) + "]";
            VALLEYS.add(Pattern.compile("m" + SHAPE + "(?:," + SHAPE + "){0,3};" + FIELD + "(?:," + FIELD + "){" + (fields - 1)
                    + "};" + singer + "(?:," + singer + "){0,4}"));
        }
    }

    /** One to so many pitches above one, rising. A look behind the last would hit the end too soon, so all are written out. */
    private static String above(int pitch, int most) {
        StringBuilder ways = new StringBuilder();
        for (int next = pitch + 1; next < 12; next++) {
            ways.append(next == pitch + 1 ? "" : "|").append(FIGURES.charAt(next));
            ways.append(most == 1 || next == 11 ? "" : above(next, most - 1) + "?");
        }
        return "(?:" + ways + ")";
    }

    private static final class Person {
        int kind;
        int low;
        int high;
        int tired;
        int place;

        Person alike() {
            Person p = new Person();
            p.kind = kind;
            p.low = low;
            p.high = high;
            p.tired = tired;
            p.place = place;
            return p;
        }
    }

    private static final class State {
        List<TreeSet<Integer>> shapes = new ArrayList<>();
        List<TreeSet<Integer>> fields = new ArrayList<>();
        List<Person> people = new ArrayList<>();
        int hour;

        State alike() {
            State s = new State();
            s.shapes = shapes;
            for (TreeSet<Integer> field : fields) {
                s.fields.add(new TreeSet<>(field));
            }
            for (Person p : people) {
                s.people.add(p.alike());
            }
            s.hour = hour;
            return s;
        }
    }

    private static final class Chord {
        int shape;
        int root;
        TreeSet<Integer> notes = new TreeSet<>();
    }

    private final StringBuilder tape = new StringBuilder();
    private State now;
    private final State[] images = new State[2];
    private final Deque<State> past = new ArrayDeque<>();
    private final long[][] rows = new long[4][];
    private final int[] lanes = new int[4];

    private static TreeSet<Integer> setOf(int bits) {
        TreeSet<Integer> set = new TreeSet<>();
        for (int k = 0; k < 12; k++) {
            if ((bits & 1 << k) != 0) {
                set.add(k);
            }
        }
        return set;
    }

    private static int bits(Iterable<Integer> set) {
        int bits = 0;
        for (int k : set) {
            bits |= 1 << k;
        }
        return bits;
    }

    private int people() {
        return now == null ? 0 : now.people.size();
    }

    private int fields() {
        return now == null ? 0 : now.fields.size();
    }

    private static boolean in(long k, long from, long to) {
        return from <= k && k <= to;
    }

    // what is told

    int feed(int letter) {
        if (!in(letter, 0, 255)) {
            return -1;
        }
        if (tape.length() == 130) {
            return -3;
        }
        return tape.append((char) letter).length();
    }

    private static boolean canBegin(String text) {
        for (Pattern pattern : VALLEYS) {
            Matcher matcher = pattern.matcher(text);
            if (matcher.matches() || matcher.hitEnd()) {
                return true;
            }
        }
        return false;
    }

    int valley() {
        String text = tape.toString();
        tape.setLength(0);
        for (Pattern pattern : VALLEYS) {
            if (pattern.matcher(text).matches()) {
                now = parse(text);
                past.clear();
                return people();
            }
        }
        int place = 0;
        while (place < text.length() && canBegin(text.substring(0, place + 1))) {
            place++;
        }
        return -100 - place;
    }

    private static TreeSet<Integer> pitches(String text) {
        TreeSet<Integer> set = new TreeSet<>();
        for (char c : text.toCharArray()) {
            if (c != '-') {
                set.add(FIGURES.indexOf(c));
            }
        }
        return set;
    }

    private static State parse(String text) {
        State s = new State();
        String[] parts = text.substring(1).split(";");
        for (String shape : parts[0].split(",")) {
            s.shapes.add(pitches(shape));
        }
        for (String field : parts[1].split(",")) {
            s.fields.add(pitches(field));
        }
        for (String singer : parts[2].split(",")) {
            Person p = new Person();
            p.kind = LETTERS.indexOf(singer.charAt(0));
            p.low = FIGURES.indexOf(singer.charAt(1));
            p.high = FIGURES.indexOf(singer.charAt(2));
            p.place = FIGURES.indexOf(singer.charAt(3));
            s.people.add(p);
        }
        return s;
    }

    private static Chord theChord(State s, TreeSet<Integer> set) {
        Chord best = null;
        if (set.isEmpty()) {
            return null;
        }
        for (int shape = 0; shape < s.shapes.size(); shape++) {
            for (int root = 0; root < 12; root++) {
                Chord c = new Chord();
                c.shape = shape;
                c.root = root;
                for (int pitch : s.shapes.get(shape)) {
                    c.notes.add((root + pitch) % 12);
                }
                if (c.notes.containsAll(set) && (best == null || c.notes.size() < best.notes.size())) {
                    best = c;
                }
            }
        }
        return best;
    }

    int shape(int shape) {
        return now == null || !in(shape, 0, now.shapes.size() - 1) ? -1 : bits(now.shapes.get(shape));
    }

    int field(int field, int what) {
        if (!in(field, 0, fields() - 1) || !in(what, 0, 4)) {
            return -1;
        }
        int sounds = bits(now.fields.get(field));
        if (what == 0) {
            return sounds;
        }
        if (what < 4) {
            return chord(sounds, what - 1);
        }
        int who = 0;
        for (int k = 0; k < people(); k++) {
            who += now.people.get(k).place == field ? 1 << k : 0;
        }
        return who;
    }

    int singer(int singer, int what) {
        if (!in(singer, 0, people() - 1) || !in(what, 0, 4)) {
            return -1;
        }
        Person p = now.people.get(singer);
        return new int[] {p.kind, p.low, p.high, p.tired, p.place == -1 ? -4 : p.place}[what];
    }

    int as(int singer, int kind) {
        if (!in(singer, 0, people() - 1) || !in(kind, 0, 5)) {
            return -1;
        }
        int[] under = {-1, 0, 1, 1, 0, 4};
        for (int k = now.people.get(singer).kind; k >= 0; k = under[k]) {
            if (k == kind) {
                return singer;
            }
        }
        return -12;
    }

    int chord(int set, int what) {
        if (!in(set, 0, 4095) || !in(what, 0, 2) || now == null) {
            return -1;
        }
        Chord c = theChord(now, setOf(set));
        if (c == null) {
            return what == 2 ? 0 : -4;
        }
        return what == 0 ? c.shape : what == 1 ? c.root : bits(c.notes) - set;
    }

    // acts

    /** What a person of a kind sings, -4 for nothing. */
    private static int song(int kind, Person p, Chord c, TreeSet<Integer> missing) {
        List<Integer> may = new ArrayList<>();
        for (int pitch : missing) {
            if (in(pitch, p.low, p.high)) {
                may.add(pitch);
            }
        }
        if (kind == 1) {
            return may.isEmpty() ? -4 : Collections.min(may);
        }
        if (kind == 2) {
            return may.isEmpty() ? -4 : Collections.max(may);
        }
        if (kind == 3) {
            for (int by = 3; by <= 4; by++) {
                if (may.contains((c.root + by) % 12)) {
                    return (c.root + by) % 12;
                }
            }
            return song(1, p, c, missing);
        }
        if (kind == 4) {
            return may.contains(c.root) ? c.root : -4;
        }
        int drone = song(4, p, c, missing);
        int fifth = (c.root + 7) % 12;
        return drone == -4 && may.contains(fifth) ? fifth : drone;
    }

    /** Who sings what, by who is heard; full ones are added to a set. */
    private static int[] songs(State s, TreeSet<Integer> full, int heard) {
        int[] sung = new int[s.people.size()];
        Arrays.fill(sung, -4);
        for (int field = 0; field < s.fields.size(); field++) {
            Chord c = theChord(s, s.fields.get(field));
            if (c == null) {
                continue;
            }
            TreeSet<Integer> missing = new TreeSet<>(c.notes);
            missing.removeAll(s.fields.get(field));
            for (int k = 0; k < sung.length; k++) {
                Person p = s.people.get(k);
                if (p.place == field && p.tired < 8 && (heard & 1 << k) != 0) {
                    sung[k] = song(p.kind, p, c, missing);
                    missing.remove(sung[k]);
                }
            }
            if (missing.isEmpty()) {
                full.add(field);
            }
        }
        return sung;
    }

    private static int more(Person p) {
        switch (p.kind) {
            case 1:
            case 3:
                return 2;
            case 2:
                return 3;
            case 4:
                return 1;
            default:
                return 0;
        }
    }

    private static TreeSet<Integer> pass(State s) {
        TreeSet<Integer> full = new TreeSet<>();
        int[] sung = songs(s, full, 31);
        for (int k = 0; k < sung.length; k++) {
            Person p = s.people.get(k);
            if (sung[k] != -4) {
                p.tired += more(p);
            } else if (p.tired > 0) {
                p.tired--;
            }
        }
        s.hour++;
        return full;
    }

    private static int tired(State s) {
        int sum = 0;
        for (Person p : s.people) {
            sum += p.tired;
        }
        return sum;
    }

    private void keep() {
        past.addLast(now.alike());
        if (past.size() > 24) {
            past.removeFirst();
        }
    }

    int hour() {
        if (now == null || now.hour == 9999) {
            return -2;
        }
        keep();
        return bits(pass(now));
    }

    int send(int singer, int field) {
        if (!in(singer, 0, people() - 1) || !in(field, -1, fields() - 1)) {
            return -1;
        }
        int stood = now.people.get(singer).place;
        if (stood == field) {
            return -2;
        }
        keep();
        now.people.get(singer).place = field;
        return stood == -1 ? -4 : stood;
    }

    private static boolean turn(TreeSet<Integer> sounds, int pitch) {
        return !sounds.remove(pitch) && sounds.add(pitch);
    }

    int sound(int field, int pitch) {
        if (!in(field, 0, fields() - 1) || !in(pitch, 0, 11)) {
            return -1;
        }
        keep();
        return turn(now.fields.get(field), pitch) ? 1 : 0;
    }

    int undo() {
        if (past.isEmpty()) {
            return -4;
        }
        now = past.removeLast();
        return past.size();
    }

    int image(int k) {
        if (!in(k, 0, 1)) {
            return -1;
        }
        if (now == null) {
            return -2;
        }
        images[k] = now.alike();
        return now.hour;
    }

    int restore(int k) {
        if (!in(k, 0, 1)) {
            return -1;
        }
        if (images[k] == null) {
            return -2;
        }
        now = images[k].alike();
        past.clear();
        return now.hour;
    }

    // foretold

    int sings(int singer) {
        return in(singer, 0, people() - 1) ? songs(now, new TreeSet<>(), 31)[singer] : -1;
    }

    int ahead(int n, int what) {
        if (!in(what, 0, 1) || !in(n, what == 0 ? 1 : 0, 60)) {
            return -1;
        }
        if (now == null) {
            return -2;
        }
        State s = now.alike();
        int full = 0;
        for (int k = 0; k < n; k++) {
            full = bits(pass(s));
        }
        return what == 0 ? full : tired(s);
    }

    int fills(int field) {
        if (!in(field, 0, fields() - 1)) {
            return -1;
        }
        for (int many = 0; many <= people(); many++) {
            for (int who = 0; who < 1 << people(); who++) {
                if (Integer.bitCount(who) == many && fullBy(field, who)) {
                    return who;
                }
            }
        }
        return -4;
    }

    private boolean fullBy(int field, int who) {
        State s = now.alike();
        for (int k = 0; k < s.people.size(); k++) {
            s.people.get(k).place = (who & 1 << k) != 0 ? field : -1;
        }
        TreeSet<Integer> full = new TreeSet<>();
        songs(s, full, 31);
        return full.contains(field);
    }

    int stands(int singer) {
        if (!in(singer, -1, people() - 1)) {
            return singer == -1 ? -2 : -1;
        }
        if (now == null) {
            return -2;
        }
        int[] best = new int[people() + 2];
        best[0] = -1;
        place(now.alike(), 0, best);
        return singer == -1 ? best[0] : best[2 + singer] == -1 ? -4 : best[2 + singer];
    }

    /** Tries all places of the people from k on; best: full fields, effort, then a place each. */
    private void place(State s, int k, int[] best) {
        if (k < s.people.size()) {
            for (int at = 0; at <= s.fields.size(); at++) {
                s.people.get(k).place = at == s.fields.size() ? -1 : at;
                place(s, k + 1, best);
            }
            return;
        }
        TreeSet<Integer> full = new TreeSet<>();
        int[] sung = songs(s, full, 31);
        int effort = 0;
        for (int j = 0; j < sung.length; j++) {
            effort += sung[j] == -4 ? 0 : more(s.people.get(j));
        }
        if (full.size() > best[0] || full.size() == best[0] && effort < best[1]) {
            best[0] = full.size();
            best[1] = effort;
            for (int j = 0; j < sung.length; j++) {
                best[2 + j] = s.people.get(j).place;
            }
        }
    }

    int howls(int field) {
        if (!in(field, 0, fields() - 1)) {
            return -1;
        }
        TreeSet<Integer> howling = new TreeSet<>();
        for (int pitch = 0; pitch < 12; pitch++) {
            TreeSet<Integer> sounds = new TreeSet<>(now.fields.get(field));
            if (sounds.add(pitch) && theChord(now, sounds) == null) {
                howling.add(pitch);
            }
        }
        return bits(howling);
    }

    int back(int field) {
        if (!in(field, 0, fields() - 1)) {
            return -1;
        }
        TreeSet<Integer> sounds = now.fields.get(field);
        if (sounds.isEmpty()) {
            return -2;
        }
        for (int many = 0; many <= 3; many++) {
            for (int set = 0; set < 4096; set++) {
                TreeSet<Integer> sent = setOf(set);
                TreeSet<Integer> left = new TreeSet<>(sounds);
                left.removeAll(sent);
                if (sent.size() == many && sounds.containsAll(sent) && theChord(now, left) != null) {
                    return set;
                }
            }
        }
        return -4;
    }

    /** All are drawn, also those elsewhere and those too tired, as the odds are the same then. */
    int wind(int field, int q, int what) {
        if (!in(field, 0, fields() - 1) || !in(q, 0, 10) || !in(what, 0, 1)) {
            return -1;
        }
        BigInteger above = BigInteger.ZERO;
        for (int heard = 0; heard < 1 << people(); heard++) {
            TreeSet<Integer> full = new TreeSet<>();
            songs(now, full, heard);
            BigInteger part = BigInteger.valueOf(full.contains(field) ? 1 : 0);
            for (int k = 0; k < people(); k++) {
                part = part.multiply(BigInteger.valueOf((heard & 1 << k) != 0 ? 10 - q : q));
            }
            above = above.add(part);
        }
        BigInteger below = BigInteger.TEN.pow(people());
        return (what == 0 ? above : below).divide(above.gcd(below)).intValue();
    }

    int decades(int n, int seed, int what) {
        if (!in(n, 0, 60) || !in(seed, 1, 999999) || !in(what, 0, 1)) {
            return -1;
        }
        if (now == null) {
            return -2;
        }
        State s = now.alike();
        BigInteger x = BigInteger.valueOf(seed);
        int full = 0;
        for (int k = 0; k < n; k++) {
            x = x.multiply(BigInteger.valueOf(16807)).mod(BigInteger.valueOf(2147483647));
            turn(s.fields.get(draw(x, 1, s.fields.size())), draw(x, 16, 12));
            s.people.get(draw(x, 256, s.people.size())).place = draw(x, 4096, s.fields.size());
            full += pass(s).size();
        }
        return what == 0 ? full : tired(s);
    }

    private static int draw(BigInteger x, int by, int of) {
        return x.divide(BigInteger.valueOf(by)).mod(BigInteger.valueOf(of)).intValue();
    }

    // sheets

    int sheet(int sheet, int lane, int n) {
        if (!in(sheet, 0, 3) || !in(lane, 0, 3) || n > 24) {
            return -1;
        }
        if (n < 0) {
            return -14;
        }
        rows[sheet] = new long[n];
        lanes[sheet] = lane;
        return n;
    }

    int drop(int sheet) {
        if (!in(sheet, 0, 3)) {
            return -1;
        }
        if (rows[sheet] == null) {
            return -11;
        }
        int had = rows[sheet].length;
        rows[sheet] = null;
        return had;
    }

    private int refusal(int sheet, int lane, long i, long n) {
        if (!in(sheet, 0, 3) || !in(lane, 0, 3)) {
            return -1;
        }
        if (rows[sheet] == null) {
            return -11;
        }
        if (lanes[sheet] != lane) {
            return -12;
        }
        return n < 0 || i < 0 || i + n > rows[sheet].length ? -13 : 0;
    }

    private void put(int sheet, int i, long v) {
        BigInteger size = BigInteger.TWO.pow(8 << lanes[sheet]);
        BigInteger low = BigInteger.valueOf(v).mod(size);
        boolean below = low.testBit((8 << lanes[sheet]) - 1);
        rows[sheet][i] = (below ? low.subtract(size) : low).longValueExact();
    }

    long item(int sheet, int lane, int i, long v) {
        int refused = refusal(sheet, lane, i, 1);
        if (refused != 0) {
            return refused;
        }
        put(sheet, i, v);
        return rows[sheet][i];
    }

    int copy(int from, int i, int to, int j, int n) {
        if (!in(from, 0, 3) || !in(to, 0, 3)) {
            return -1;
        }
        if (rows[from] == null || rows[to] == null) {
            return -11;
        }
        if (lanes[from] != lanes[to]) {
            return -12;
        }
        if (refusal(from, lanes[from], i, n) != 0 || refusal(to, lanes[to], j, n) != 0) {
            return -13;
        }
        long[] taken = Arrays.copyOfRange(rows[from], i, i + n);
        for (int k = 0; k < n; k++) {
            rows[to][j + k] = taken[k];
        }
        return n;
    }

    int log(int sheet, int lane, int i) {
        int refused = now == null ? -1 : refusal(sheet, lane, i, people());
        if (refused != 0) {
            return refused;
        }
        int[] sung = songs(now, new TreeSet<>(), 31);
        for (int k = 0; k < sung.length; k++) {
            put(sheet, i + k, sung[k] == -4 ? 12 : sung[k]);
        }
        return sung.length;
    }

    /** What one taken as a kind sings alone, 12 for nothing. */
    private int alone(int kind, Person p, int set) {
        Chord c = theChord(now, setOf(set));
        if (c == null) {
            return 12;
        }
        TreeSet<Integer> missing = new TreeSet<>(c.notes);
        missing.removeAll(setOf(set));
        int sung = song(kind, p, c, missing);
        return sung == -4 ? 12 : sung;
    }

    private boolean arePairs(int sheet, int i, int n, int last) {
        for (int k = 0; k < n; k++) {
            if (!in(rows[sheet][i + 2 * k], 0, last) || !in(rows[sheet][i + 2 * k + 1], 0, 12)) {
                return false;
            }
        }
        return true;
    }

    int sounded(int sheet, int lane, int i, int n, int what) {
        if (now == null || !in(n, 1, 6) || !in(what, 0, 2)) {
            return -1;
        }
        int refused = refusal(sheet, lane, i, 2L * n);
        if (refused != 0) {
            return refused;
        }
        if (!arePairs(sheet, i, n, people() - 1)) {
            return -2;
        }
        List<Integer> sets = new ArrayList<>();
        for (int set = 1; set < 4096; set++) {
            boolean so = true;
            for (int k = 0; k < n && so; k++) {
                Person p = now.people.get((int) rows[sheet][i + 2 * k]);
                so = alone(p.kind, p, set) == rows[sheet][i + 2 * k + 1];
            }
            if (so) {
                sets.add(set);
            }
        }
        if (what == 0 || sets.isEmpty()) {
            return what == 0 ? sets.size() : -4;
        }
        return what == 1 ? sets.get(0) : hear(sets);
    }

    private int hear(List<Integer> sets) {
        int best = -4;
        int least = Integer.MAX_VALUE;
        for (int k = people() - 1; k >= 0; k--) {
            int[] parts = new int[13];
            for (int set : sets) {
                parts[alone(now.people.get(k).kind, now.people.get(k), set)]++;
            }
            Arrays.sort(parts);
            if (parts[12] <= least) {
                least = parts[12];
                best = k;
            }
        }
        return best;
    }

    int kinds(int singer, int sheet, int lane, int i, int n) {
        if (!in(singer, 0, people() - 1) || !in(n, 1, 6)) {
            return -1;
        }
        int refused = refusal(sheet, lane, i, 2L * n);
        if (refused != 0) {
            return refused;
        }
        if (!arePairs(sheet, i, n, 4095)) {
            return -2;
        }
        TreeSet<Integer> may = new TreeSet<>(List.of(1, 2, 3, 4, 5));
        for (int k = 0; k < n; k++) {
            int set = (int) rows[sheet][i + 2 * k];
            long sang = rows[sheet][i + 2 * k + 1];
            may.removeIf(kind -> alone(kind, now.people.get(singer), set) != sang);
        }
        return bits(may);
    }

    int count(int what) {
        if (!in(what, 0, 8)) {
            return -1;
        }
        if (what == 8) {
            return tape.length();
        }
        if (now == null) {
            return 0;
        }
        TreeSet<Integer> with = new TreeSet<>();
        TreeSet<Integer> whole = new TreeSet<>();
        for (int field = 0; field < fields(); field++) {
            Chord c = theChord(now, now.fields.get(field));
            if (c != null) {
                with.add(field);
                if (c.notes.equals(now.fields.get(field))) {
                    whole.add(field);
                }
            }
        }
        return new int[] {people(), fields(), now.shapes.size(), now.hour, tired(now), bits(with), bits(whole), past.size()}[what];
    }
}
