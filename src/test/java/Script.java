import java.io.IOException;
import java.lang.reflect.InvocationTargetException;
import java.lang.reflect.Method;
import java.lang.reflect.Modifier;
import java.nio.charset.StandardCharsets;
import java.nio.file.Files;
import java.nio.file.Path;
import java.util.ArrayList;
import java.util.HashMap;
import java.util.List;
import java.util.Map;
import java.util.Set;
import java.util.regex.Matcher;
import java.util.regex.Pattern;

/**
 * Tries sentences of the document by runs of calls on a new object, a line each:
 * <pre>
 * send(0, -1) = NONE          a call and the answer that is due (a number, a constant's name, FAULT and its place)
 * hour()                      a call that is only needed on the way, and not refused
 * 24 x hour() = 1             a call that many times
 * read(m01;-;s00-) = 1        a text fed byte by byte, then valley()
 * lay(0, 2, 5, 6)             sheet 0 of lane 2 with the items 5 and 6
 * </pre>
 * Whatever a run tries, this is tried with it: a call that is refused changes nothing, and neither does one that only
 * tells or foretells. A twin goes through the same run without those calls, and all that can be asked of the two then
 * is asked of both.
 */
final class Script {
    private static final int MOST_CALLS = 512;
    private static final int PROBES = 8;
    /** A run that leaves fewer calls than this is not asked for traces: what an object answers later is free. */
    private static final int MOST_ASKED = 100;
    private static final Pattern LINE = Pattern.compile("(?:(\\d+) x )?([a-z]+)\\((.*)\\)(?: = (.*))?");
    private static final Pattern NUMBER = Pattern.compile("-?\\d+");
    private static final Set<String> TELLING = Set.of("shape", "field", "singer", "as", "chord", "sings", "ahead", "fills",
            "stands", "howls", "back", "wind", "decades", "sounded", "kinds", "count");
    private static final Map<String, Long> NAMES = new HashMap<>();
    private static final Map<String, Method> CALLS = new HashMap<>();

    static {
        NAMES.put("BAD", (long) MissingNote.BAD);
        NAMES.put("NOT", (long) MissingNote.NOT);
        NAMES.put("FULL", (long) MissingNote.FULL);
        NAMES.put("NONE", (long) MissingNote.NONE);
        NAMES.put("NULL", (long) MissingNote.NULL);
        NAMES.put("CAST", (long) MissingNote.CAST);
        NAMES.put("INDEX", (long) MissingNote.INDEX);
        NAMES.put("SIZE", (long) MissingNote.SIZE);
        NAMES.put("MIN", (long) Integer.MIN_VALUE);
        NAMES.put("MAX", (long) Integer.MAX_VALUE);
        for (Method method : MissingNote.class.getDeclaredMethods()) {
            if (Modifier.isPublic(method.getModifiers())) {
                CALLS.put(method.getName(), method);
            }
        }
    }

    /** A call of a run; due is null where no answer is asked for. */
    private record Step(String name, long[] given, String due) {
        boolean isRefused() {
            return due != null && !NUMBER.matcher(due).matches() && !(name.equals("send") && due.equals("NONE"));
        }

        boolean isOnlyTelling() {
            return TELLING.contains(name);
        }
    }

    /** An object and how often it was called. */
    private static final class Player {
        private final MissingNote x = new MissingNote();
        private final StringBuilder answers = new StringBuilder();
        private int calls;

        long call(String name, long... given) {
            Method method = CALLS.get(name);
            Object[] arguments = new Object[given.length];
            for (int k = 0; k < given.length; k++) {
                boolean wide = method.getParameterTypes()[k] == long.class;
                arguments[k] = wide ? (Object) given[k] : (Object) Math.toIntExact(given[k]);
            }
            calls++;
            try {
                return ((Number) method.invoke(x, arguments)).longValue();
            } catch (InvocationTargetException e) {
                throw new IllegalStateException(name + " threw", e.getCause());
            } catch (IllegalAccessException e) {
                throw new IllegalStateException(name + " is not public", e);
            }
        }

        long note(String name, long... given) {
            long answer = call(name, given);
            answers.append(answer).append(' ');
            return answer;
        }

        void play(List<Step> steps) {
            for (Step step : steps) {
                call(step.name, step.given);
            }
        }
    }

    private final Check check;
    private final List<String> sentences = new ArrayList<>();
    private String sentence = "";

    Script(String test) {
        check = new Check(test);
    }

    /** What follows tries this sentence, in the document's own words, of a promise or of the terms it rests on. */
    void sentence(int promise, String words) {
        check.promise(promise);
        sentence = words;
        sentences.add(words);
    }

    void run(String... lines) {
        List<Step> steps = new ArrayList<>();
        for (String line : lines) {
            add(steps, line);
        }
        Player player = new Player();
        for (Step step : steps) {
            long answer = player.call(step.name, step.given);
            if (step.due != null) {
                check.due(told(step) + " (" + sentence + ")", answer, number(step.due));
            }
        }
        inRoom(player);
        for (int k = 0; k < steps.size(); k++) {
            if (steps.get(k).isRefused() && !steps.get(k).isOnlyTelling()) {
                twin(steps.subList(0, k + 1));
            }
        }
        twin(steps);
    }

    /** Of all 256 bytes behind a text just these can stand there; each other one is a fault at that place. */
    void follows(String text, String may) {
        for (int letter = 0; letter < 256; letter++) {
            MissingNote x = new MissingNote();
            int answer = Check.read(x, text + (char) letter);
            if (may.indexOf(letter) < 0) {
                check.due("valley() of \"" + text + "\" and the byte " + letter, answer, -100 - text.length());
            } else {
                check.holds("\"" + text + "\" may be followed by " + (char) letter + ": " + answer,
                        answer > 0 || answer == -100 - text.length() - 1);
            }
        }
    }

    /** Ends the test; says which sentences are no longer in the document, so that their tests can be looked at. */
    void end(String[] args) throws IOException {
        if (args.length > 1 && Files.exists(Path.of(args[1]))) {
            String document = plain(Files.readString(Path.of(args[1]), StandardCharsets.UTF_8));
            for (String words : sentences) {
                if (!document.contains(plain(words))) {
                    System.out.println("look at this test, the document no longer says: " + words);
                }
            }
        }
        check.end();
    }

    private static String plain(String text) {
        return text.replaceAll("\\s+", " ").trim();
    }

    // lines

    private static void add(List<Step> steps, String line) {
        Matcher parts = LINE.matcher(line);
        if (!parts.matches()) {
            throw new IllegalArgumentException("no line of a run: " + line);
        }
        int times = parts.group(1) == null ? 1 : Integer.parseInt(parts.group(1));
        for (int k = 0; k < times; k++) {
            addCall(steps, parts.group(2), parts.group(3), parts.group(4));
        }
    }

    private static void addCall(List<Step> steps, String name, String given, String due) {
        if (name.equals("read")) {
            for (char letter : given.toCharArray()) {
                steps.add(new Step("feed", new long[] {letter}, null));
            }
            steps.add(new Step("valley", new long[0], due));
        } else if (name.equals("lay")) {
            long[] row = numbers(given);
            steps.add(new Step("sheet", new long[] {row[0], row[1], row.length - 2}, String.valueOf(row.length - 2)));
            for (int i = 0; i < row.length - 2; i++) {
                steps.add(new Step("item", new long[] {row[0], row[1], i, row[i + 2]}, null));
            }
        } else {
            steps.add(new Step(name, numbers(given), due));
        }
    }

    private static long[] numbers(String given) {
        if (given.isEmpty()) {
            return new long[0];
        }
        String[] parts = given.split(", ");
        long[] numbers = new long[parts.length];
        for (int k = 0; k < parts.length; k++) {
            numbers[k] = number(parts[k]);
        }
        return numbers;
    }

    private static long number(String text) {
        if (text.startsWith("FAULT ")) {
            return -100 - Long.parseLong(text.substring(6));
        }
        return NAMES.containsKey(text) ? NAMES.get(text) : Long.parseLong(text);
    }

    private static String told(Step step) {
        StringBuilder text = new StringBuilder(step.name).append('(');
        for (int k = 0; k < step.given.length; k++) {
            text.append(k == 0 ? "" : ", ").append(step.given[k]);
        }
        return text.append(')').toString();
    }

    // twins

    private void inRoom(Player player) {
        check.holds("a run of " + player.calls + " calls: " + sentence, player.calls <= MOST_CALLS);
    }

    private void twin(List<Step> steps) {
        List<Step> kept = withoutTraceless(steps);
        if (kept.size() == steps.size()) {
            return;
        }
        int room = MOST_CALLS - steps.size();
        if (room < MOST_ASKED) {
            return;
        }
        for (int probe = 0; probe < PROBES; probe++) {
            String answers = ask(steps, probe, room);
            String due = ask(kept, probe, room);
            check.holds(told(steps.get(steps.size() - 1)) + " or a call ahead of it left a trace, asked by way " + probe + ": "
                    + answers + "; due is " + due + " (" + sentence + ")", answers.equals(due));
        }
    }

    /** A fault leaves one trace, as told: the tape is empty. So the twin is not fed what was read in vain. */
    private static List<Step> withoutTraceless(List<Step> steps) {
        List<Step> kept = new ArrayList<>();
        for (Step step : steps) {
            if (step.isRefused() && step.name.equals("valley")) {
                int last = kept.size();
                while (last > 0 && !kept.get(last - 1).name.equals("valley")) {
                    last--;
                    if (kept.get(last).name.equals("feed")) {
                        kept.remove(last);
                    }
                }
            } else if (!step.isRefused() && !step.isOnlyTelling()) {
                kept.add(step);
            }
        }
        return kept;
    }

    private String ask(List<Step> steps, int probe, int room) {
        Player player = new Player();
        player.play(steps);
        int before = player.calls;
        switch (probe) {
            case 0:
                askNow(player);
                askAhead(player);
                break;
            case 1:
                askPast(player, room);
                break;
            case 2:
                player.note("restore", 0);
                askNow(player);
                player.note("restore", 1);
                askNow(player);
                break;
            case 3:
                player.note("valley");
                askNow(player);
                break;
            default:
                askSheet(player, probe - 4);
                break;
        }
        check.holds("a probe that goes too far: " + sentence, player.calls - before <= room);
        return player.answers.toString();
    }

    private static void askNow(Player player) {
        for (int k = 0; k < 9; k++) {
            player.note("count", k);
        }
        for (int k = 0; k < 5; k++) {
            player.note("shape", k);
            player.note("field", k, 0);
            for (int what = 0; what < 5; what++) {
                player.note("singer", k, what);
            }
        }
    }

    private static void askAhead(Player player) {
        for (int k = 0; k < 5; k++) {
            player.note("sings", k);
            player.note("stands", k);
            player.note("chord", 1 << 2 * k, 1);
            player.note("chord", 1 << k | 1 << k + 4, 2);
        }
        player.note("ahead", 1, 0);
        player.note("ahead", 60, 1);
        player.note("decades", 60, 4711, 0);
        player.note("decades", 60, 4711, 1);
    }

    private static void askPast(Player player, int room) {
        int asked = 0;
        while (asked + 13 <= room && player.note("undo") >= 0) {
            player.note("count", 3);
            player.note("count", 4);
            for (int k = 0; k < 5; k++) {
                player.note("field", k, 0);
                player.note("singer", k, 4);
            }
            asked += 13;
        }
    }

    /**
     * No call only reads an item: each is copied to another sheet, as what the one singer of a valley sang. The lane is
     * asked for by a call that only tells, lest the asking blot out a trace.
     */
    private static void askSheet(Player player, int sheet) {
        player.call("valley");
        for (char letter : "m06;-;s0b-".toCharArray()) {
            player.call("feed", letter);
        }
        player.call("valley");
        int lane = -1;
        for (int k = 0; k < 4; k++) {
            if (player.note("kinds", 0, sheet, k, -1, 1) == MissingNote.INDEX) {
                lane = k;
            }
        }
        if (lane >= 0) {
            int other = (sheet + 1) % 4;
            player.call("sheet", other, lane, 2);
            for (int i = 0; i < 24 && player.note("copy", sheet, i, other, 1, 1) == 1; i++) {
                player.note("sounded", other, lane, 0, 1, 1);
            }
        }
        player.note("drop", sheet);
    }
}
