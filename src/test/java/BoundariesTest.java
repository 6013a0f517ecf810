import java.lang.reflect.InvocationTargetException;
import java.lang.reflect.Method;
import java.util.ArrayList;
import java.util.Arrays;
import java.util.HashMap;
import java.util.List;
import java.util.Map;
import java.util.Set;

/**
 * Each sentence of the document that names a boundary case, with a test at it and one just inside it.
 *
 * <p>A run of calls is written as lines of "call numbers = answer", more of them behind a ";", with
 * "told 5" or "told 3/4" behind an answer for what asked(), or upper() and lower(), tell then. Answers
 * are numbers or the words of the document (BAD, NOTHING ..). Each refused call is looked at besides: it
 * must leave no trace but in finding() and findings(), neither at once nor behind undo() and on().
 */
public final class BoundariesTest {
    /** r 0 moves 1, p 1 moves 3, n 2 moves 4, s 3 moves 5, w 4 moves 3, t 5 moves 4. */
    private static final String SIX = "h0r512p630n742s453w830t941a0108a2221a0044";
    private static final int NONE = -9;
    private static int wrong = 0;
    private static int runs = 0;
    private static String sentence = "";

    public static void main(String[] args) {
        Terms.all();
        Language.all();
        Hauls.all();
        Rows.all();
        Courts.all();
        Deeds.all();
        Aside.all();
        Pairs.all();
        Chances.all();
        Told.all();
        System.out.println(wrong == 0 ? "BoundariesTest: all as due in " + runs + " runs"
            : "BoundariesTest: " + wrong + " wrong");
        if (wrong != 0) {
            System.exit(1);
        }
    }

    private static void says(String words) {
        sentence = words;
    }

    private static void report(String what) {
        wrong++;
        System.out.println("\"" + sentence + "\": " + what);
    }

    /** On a new object, with a court by the text if there is one. */
    private static void run(String court, String... lines) {
        runs++;
        Run run = new Run();
        if (!court.isEmpty()) {
            run.write(0, court);
            if (run.call("court", 0) < 1) {
                report("no court by " + court);
            }
        }
        for (String line : lines) {
            for (String one : line.split(";")) {
                run.line(one.trim());
            }
        }
        run.end();
    }

    /** The FAULT of a text, and that court() goes by it. */
    private static void fault(String text, int due) {
        Run run = new Run();
        run.write(1, text);
        run.line("fault 1 = " + (due == NONE ? "NONE" : String.valueOf(due)));
        if (due == NONE) {
            run.line("court 1 = " + text.replaceAll("[^rspntw]", "").length());
        } else {
            run.line("court 1 = STATE");
        }
        run.line("finding = 0");
        run.end();
        runs++;
    }

    private static void fine(String text) {
        fault(text, NONE);
    }

    private record Call(String name, int[] numbers) {
    }

    /** One object, the calls made on it, and what they are held against. */
    private static final class Run {
        private static final int MOST_CALLS = 512;
        private static final List<String> FINDINGS =
            List.of("", "NOTHING", "BEYOND", "UNLIKE", "NOUGHT", "SIZE");
        private static final Map<String, Integer> WORDS = Map.of("BAD", -1, "FULL", -2, "FINDING", -3,
            "STATE", -4, "SPENT", -6, "NONE", -9, "LEAST", Integer.MIN_VALUE, "MOST", Integer.MAX_VALUE);
        private static final Set<String> REFUSALS = Set.of("BAD", "FULL", "STATE", "SPENT", "NONE");
        private static final Set<String> ASIDE = Set.of("fault", "rope", "mark", "passes", "moves", "parts",
            "lawful", "fall", "idle", "who", "kinds", "test", "duel", "odds", "mid", "at", "mean", "asked",
            "upper", "lower", "count", "finding", "findings", "digest");
        private static final Map<String, Method> METHODS = new HashMap<>();

        static {
            for (Method method : LawRigging.class.getDeclaredMethods()) {
                METHODS.put(method.getName(), method);
            }
        }

        private final LawRigging x = new LawRigging();
        private final List<Call> kept = new ArrayList<>();
        private boolean refusedAny = false;
        private int calls = 0;
        private String latest = "";

        long call(String name, int... numbers) {
            latest = name + Arrays.toString(numbers);
            kept.add(new Call(name, numbers));
            return ask(name, numbers);
        }

        /** A call that is not made again when the run is held against one without its refused calls. */
        private long ask(String name, int... numbers) {
            calls++;
            if (calls > MOST_CALLS) {
                report("more than 512 calls at " + latest);
            }
            Object[] boxed = Arrays.stream(numbers).boxed().toArray();
            try {
                return ((Number) METHODS.get(name).invoke(x, boxed)).longValue();
            } catch (InvocationTargetException thrown) {
                report(latest + " threw " + thrown.getCause());
                return Long.MIN_VALUE;
            } catch (IllegalAccessException | IllegalArgumentException | NullPointerException wrongCall) {
                throw new IllegalStateException(latest, wrongCall);
            }
        }

        void write(int t, String text) {
            call("text", t, text.length());
            for (int i = 0; i < text.length(); i++) {
                if (text.charAt(i) != ' ') {
                    call("put", t, i, text.charAt(i));
                }
            }
        }

        void line(String line) {
            if (line.isEmpty()) {
                return;
            }
            String[] words = line.split(" +");
            switch (words[0]) {
                case "write":
                    write(Integer.parseInt(words[1]), line.substring(line.indexOf('\'') + 1, line.lastIndexOf('\'')));
                    break;
                case "fill":
                    fill(numbers(words, 1, words.length));
                    break;
                case "holds":
                    holds(numbers(words, 1, words.length));
                    break;
                case "frosts":
                    for (int n = 0; n < Integer.parseInt(words[1]); n++) {
                        call("frost", 1 - (int) ask("count", 3));
                    }
                    break;
                default:
                    expect(words);
            }
        }

        private int[] numbers(String[] words, int from, int to) {
            int[] numbers = new int[to - from];
            for (int i = from; i < to; i++) {
                numbers[i - from] = number(words[i]);
            }
            return numbers;
        }

        private static int number(String word) {
            return WORDS.containsKey(word) ? WORDS.get(word) : Integer.parseInt(word);
        }

        /** The row by the first number is to be the others. */
        private void fill(int[] numbers) {
            call("row", numbers[0], numbers.length - 1);
            for (int i = 1; i < numbers.length; i++) {
                call("lay", numbers[0], i - 1, numbers[i]);
            }
        }

        /** The row by the first number must be the others, no more of them. */
        private void holds(int[] numbers) {
            latest = "row " + numbers[0];
            for (int i = 1; i < numbers.length; i++) {
                due("place " + (i - 1), call("at", numbers[0], i - 1), 1);
                due("place " + (i - 1) + " told", ask("asked"), numbers[i]);
            }
            long before = ask("findings", 2);
            due("the place behind the last", ask("at", numbers[0], numbers.length - 1), -3);
            due("the place behind the last", ask("findings", 2), before + 1);
        }

        private void due(String what, long got, long want) {
            if (got != want) {
                report(latest + ": " + what + " is " + got + ", due is " + want);
            }
        }

        private void expect(String[] words) {
            int is = Arrays.asList(words).indexOf("=");
            int[] numbers = numbers(words, 1, is);
            String answer = words[is + 1];
            int finding = FINDINGS.indexOf(answer);
            if (finding > 0 || REFUSALS.contains(answer)) {
                refused(words[0], numbers, Math.max(finding, 0), answer);
            } else {
                answered(words[0], numbers, Long.parseLong(answer));
            }
            if (is + 2 < words.length) {
                told(words[is + 3].split("/"));
            }
        }

        private void answered(String name, int[] numbers, long want) {
            boolean aside = ASIDE.contains(name);
            boolean asideButForARow = name.equals("least") || name.equals("share");
            long before = aside ? ask("digest") : asideButForARow ? court() : 0;
            due("the answer", call(name, numbers), want);
            if (aside) {
                due("the digest behind it", ask("digest"), before);
            }
            if (asideButForARow) {
                due("the court behind it", court(), before);
            }
        }

        /** The part of the digest that no row has a share in. */
        private long court() {
            long h = 0;
            for (int what = 2; what <= 7; what++) {
                h = 100 * h + ask("count", what);
            }
            return 100 * h + ask("count", 12);
        }

        private void told(String[] numbers) {
            if (numbers.length == 2) {
                due("upper", ask("upper"), number(numbers[0]));
                due("lower", ask("lower"), number(numbers[1]));
            } else {
                due("asked", ask("asked"), number(numbers[0]));
            }
        }

        private void refused(String name, int[] numbers, int finding, String answer) {
            refusedAny = true;
            long[] before = told();
            if (finding > 0) {
                before[4] = finding;
                before[4 + finding]++;
            }
            latest = name + Arrays.toString(numbers);
            due("the answer", ask(name, numbers), finding > 0 ? -3 : number(answer));
            long[] after = told();
            if (!Arrays.equals(before, after)) {
                report(latest + " left a trace: " + Arrays.toString(before) + " became " + Arrays.toString(after));
            }
        }

        private long[] told() {
            long[] told = {ask("digest"), ask("asked"), ask("upper"), ask("lower"), ask("finding"), 0, 0, 0, 0, 0};
            for (int f = 1; f <= 5; f++) {
                told[4 + f] = ask("findings", f);
            }
            return told;
        }

        /** Behind its refused calls an object must be like one on which they were not made. */
        void end() {
            if (!refusedAny) {
                return;
            }
            Run other = new Run();
            for (Call call : kept) {
                if (!ASIDE.contains(call.name())) {
                    other.ask(call.name(), call.numbers());
                }
            }
            latest = "the end of the run";
            if (!story().equals(other.story())) {
                report("what a refused call did came out later");
            }
        }

        private List<Long> story() {
            List<Long> story = new ArrayList<>();
            for (int k = -1; k < 3; k++) {
                if (k < 0 || ask("on", k) >= 0) {
                    story.add(ask("digest"));
                    for (int d = (int) ask("count", 2) - 1; d >= 0; d--) {
                        ask("undo", d);
                        story.add(ask("digest"));
                    }
                }
            }
            return story;
        }
    }

    /** "ANSWERS", and what an object is. */
    private static final class Terms {
        /** Rope 0 is parted, 1 let go, 2 can be hauled; the first two deeds are spent. */
        private static final String THREE = "h0r900n900s900a0000";

        static void all() {
            ordersOfRefusals();
            stateAheadOfFull();
            theFortiethDeed();
            numbersOfRowsAndTexts();
            missingAtFirst();
            callsOfOneObject();
        }

        private static void ordersOfRefusals() {
            says("Refused is, the first of these that fits, in this order: BAD, FULL, STATE, SPENT, FINDING");
            run("", "row 6 -1 = BAD; row 5 -1 = SIZE; text 4 -1 = BAD; text 3 -1 = SIZE; lay 6 -1 0 = BAD",
                "lay 5 -1 0 = NOTHING; row 5 0 = 0; lay 5 -1 0 = BEYOND; at 6 -1 = BAD; at 4 -1 = NOTHING",
                "at 5 -1 = BEYOND");
            run("", "put 4 -1 0 = BAD; put 3 -1 0 = NOTHING; text 3 0 = 0; put 3 -1 0 = BEYOND; fault 4 = BAD",
                "fault 2 = NOTHING; court 4 = BAD; court 2 = NOTHING; court 3 = STATE; mean 6 = BAD",
                "mean 5 = NOTHING; row 5 0 = 0; mean 5 = NOUGHT");
            run(SIX, "mark 6 6 = BAD; mark 6 1 = BAD; mark 0 6 = BAD; mark 0 0 = BAD; mark 0 5 = UNLIKE",
                "on 3 = BAD; on 2 = NOTHING");
            run("", "keep 3 = BAD; keep 0 = STATE; share 61 6 = BAD; share 61 0 = BAD; share 0 6 = BAD",
                "share 60 0 = STATE; duel 4 = BAD; duel 3 = STATE; mid 13 = BAD; mid 12 = STATE; lots 21 1 = BAD",
                "lots 1 0 = BAD; lots 20 1 = STATE; frost 2 = BAD; frost 1 = STATE");
            run(SIX, "slack 0 = 2; cut 1 = 1; moves 0 0 = BAD; moves 1 10 = BAD; moves 0 1 = STATE",
                "moves 1 1 = STATE; moves 2 1 = 4; parts 6 = BAD; parts 0 = STATE; parts 1 = STATE; haul 0 0 = BAD",
                "haul 1 10 = BAD; haul 0 1 = STATE; haul 1 9 = STATE");
        }

        private static void stateAheadOfFull() {
            says("(FULL last.)");
            runFull("haul 3 1 = BAD; haul 2 0 = BAD; haul 2 10 = BAD; haul 0 1 = STATE; haul 1 1 = STATE",
                "haul 2 1 = FULL; haul 2 9 = FULL");
            runFull("slack 3 = BAD; slack 0 = STATE; slack 1 = STATE; slack 2 = FULL",
                "belay 3 = BAD; belay 0 = STATE; belay 2 = STATE; belay 1 = FULL");
            runFull("cut 3 = BAD; cut 0 = STATE; cut 1 = FULL; cut 2 = FULL",
                "splice 3 = BAD; splice 1 = STATE; splice 2 = STATE; splice 0 = FULL");
            runFull("frost 2 = BAD; frost -1 = BAD; frost 0 = STATE; frost 1 = FULL",
                "lots 0 1 = BAD; lots 1 0 = BAD; lots 1 1 = FULL; lots 20 1 = FULL");
            says("These are DEEDS 0, 1, .. (40 at most): what is no DEED goes on");
            runFull("keep 1 = 40; on 1 = 40; undo 40 = 0; undo 41 = BAD; least 0 3 = 0; moves 2 9 = 4 told NONE",
                "row 0 40 = 40; undo 0 = 40; count 2 = 0; haul 0 1 = 0");
        }

        private static void runFull(String... lines) {
            List<String> all = new ArrayList<>(
                List.of("cut 0 = 1; slack 1 = 0; frosts 38; count 2 = 40; count 3 = 0"));
            all.addAll(List.of(lines));
            run(THREE, all.toArray(new String[0]));
        }

        private static void theFortiethDeed() {
            says("These are DEEDS 0, 1, .. (40 at most)");
            String ahead = "cut 0 = 1; slack 1 = 0; frosts 37; count 2 = 39; count 3 = 1";
            run(THREE, ahead, "haul 2 1 = 0; haul 2 1 = FULL; count 7 = 2; undo 39 = 1; count 7 = 0",
                "slack 2 = 0; belay 2 = FULL; undo 39 = 1; belay 1 = 0; slack 1 = FULL; undo 39 = 1",
                "cut 2 = 2; splice 2 = FULL; count 2 = 40");
            run(THREE, ahead, "splice 0 = 0; cut 0 = FULL; undo 39 = 1; frost 0 = 0; frost 1 = FULL; undo 39 = 1",
                "lots 2 1 = FULL; lots 1 1 = 1; lots 1 1 = FULL; count 2 = 40");
        }

        private static void numbersOfRowsAndTexts() {
            for (String call : List.of("row R 1", "lay R 0 0", "at R 0", "tear R", "copy R 0 0 0 0",
                "copy 0 0 R 0 0", "mean R", "least 0 R", "share 0 R", "who R", "kinds R", "test R")) {
                says("ROWS 0 .. 5 (" + call + ")");
                boolean reads = !call.startsWith("row") && !call.startsWith("least") && !call.startsWith("share");
                run("h0r100a0100", "row 0 1 = 1", numbered(call, "R", reads, -1, 6));
                says("ROWS 0 .. 5, just inside (" + call + ")");
                for (int r = 0; r < 6; r += 5) {
                    run("h0r100a0000", "row 0 2 = 2; row 5 2 = 2", call.replace("R", String.valueOf(r)) + " = "
                        + insideOfRows(call));
                }
            }
            for (String call : List.of("text T 1", "put T 0 32", "fault T", "court T")) {
                says("TEXTS 0 .. 3 (" + call + ")");
                run("h0r100a0100", numbered(call, "T", !call.startsWith("text"), -1, 4));
                says("TEXTS 0 .. 3, just inside (" + call + ")");
                for (int t = 0; t < 4; t += 3) {
                    run("", "write " + t + " 'h0r100a0100'", call.replace("T", String.valueOf(t)) + " = "
                        + Map.of("text", "1", "put", "1104", "fault", "NONE", "court", "1").get(call.split(" ")[0]));
                }
            }
        }

        private static int insideOfRows(String call) {
            String name = call.split(" ")[0];
            return Map.of("least", 0, "share", 0, "who", 1, "kinds", 63, "test", 3).getOrDefault(name, 1);
        }

        /** The call by numbers that are none, all around the two; NOTHING where a row or text is missing. */
        private static String numbered(String call, String letter, boolean reads, int below, int above) {
            StringBuilder lines = new StringBuilder();
            for (String number : List.of("LEAST", String.valueOf(below), String.valueOf(above), "MOST")) {
                lines.append(call.replace(letter, number)).append(" = BAD; ");
            }
            if (reads) {
                lines.append(call.replace(letter, String.valueOf(above - 1))).append(" = NOTHING");
            }
            return lines.toString();
        }

        private static void missingAtFirst() {
            says("or missing (at first)");
            for (int r = 0; r < 6; r++) {
                run("", "at " + r + " 0 = NOTHING; tear " + r + " = NOTHING; row " + r + " 1 = 1",
                    "at " + r + " 0 = 1 told 0; count 10 = 1; tear " + r + " = 1; tear " + r + " = NOTHING");
            }
            for (int t = 0; t < 4; t++) {
                run("", "fault " + t + " = NOTHING; text " + t + " 1 = 1; fault " + t + " = 1; count 11 = 1");
            }
            for (int k = 0; k < 3; k++) {
                run("h0r100a0000", "on " + k + " = NOTHING; keep " + k + " = 0; on " + k + " = 0; count 12 = 1");
            }
            says("Without ROPES at first: no call finds one");
            run("", "rope 0 0 = BAD; mark 0 1 = BAD; haul 0 1 = BAD; slack 0 = BAD; belay 0 = BAD; cut 0 = BAD",
                "splice 0 = BAD; passes 0 0 = BAD; moves 0 1 = BAD; parts 0 = BAD; least 0 0 = BAD",
                "odds 0 0 = BAD");
            run("", "frost 0 = STATE; frost 1 = STATE; keep 0 = STATE; lawful = STATE; fall = STATE; idle = STATE",
                "share 0 0 = STATE; duel 0 = STATE; mid 0 = STATE; lots 1 1 = STATE; undo 0 = 0; undo 1 = BAD");
            run("", "row 0 0 = 0; who 0 = 0; kinds 0 = 63; test 0 = 3 told 2; at 0 0 = BEYOND");
            says("Without ROPES, just inside: one");
            run("h0r100a0100", "frost 0 = STATE; frost 1 = 1; keep 0 = 1; lawful = 0; fall = 0 told 0; idle = 1",
                "share 0 0 = 0; duel 0 = 1 told 0; mid 0 = 1 told 0/1; lots 1 1 = 0; undo 2 = 0; undo 3 = BAD");
            says("No ROWS, TEXTS, ROPES, ACTS");
            for (int what = 0; what <= 12; what++) {
                run("", "count " + what + " = 0; asked = 0; upper = 0; lower = 1; finding = 0",
                    "findings 1 = 0; findings 2 = 0; findings 3 = 0; findings 4 = 0; findings 5 = 0");
            }
        }

        private static void callsOfOneObject() {
            says("An object is used for at most 512 calls after it has been made");
            LawRigging x = new LawRigging();
            String court = "h0n920r930s904a0100a0004";
            x.text(0, court.length());
            for (int i = 0; i < court.length(); i++) {
                x.put(0, i, court.charAt(i));
            }
            x.court(0);
            for (int calls = court.length() + 2; calls < 510; calls++) {
                if (x.lawful() != 0) {
                    report("call " + calls);
                }
            }
            if (x.haul(0, 3) != 0) {
                report("the 511th call");
            }
            if (x.lawful() != 1) {
                report("the 512th call");
            }
        }
    }

    /** What a COURT is as a TEXT, and its FAULTS. */
    private static final class Language {
        private static final String SMALL = "h1r951a6300";
        /** The longest court there is without blanks: 46 signs. */
        private static final String LONGEST = "h1r100s100p100n100t100w100a0000a0000a0000a0000";

        static void all() {
            blanks();
            everySignInEveryPlace();
            head();
            figures();
            numbersOfItems();
            endsThatComeTooEarly();
            kindsAndLetters();
            whatItPasses();
            whatItHolds();
        }

        private static void blanks() {
            says("blanks (32) ahead, between, behind as many as wanted");
            String fourteen = " ".repeat(14);
            fine(LONGEST);
            fine(fourteen + LONGEST);
            fine(LONGEST + fourteen);
            for (int item = 2; item < 26; item += 4) {
                fine(LONGEST.substring(0, item) + fourteen + LONGEST.substring(item));
            }
            for (int item = 26; item < 46; item += 5) {
                fine(LONGEST.substring(0, item) + fourteen + LONGEST.substring(item));
            }
            says("blanks (32): another sign is none");
            for (char sign : new char[] {0, 9, 10, 13, 31, 33, 95, 160}) {
                fault(sign + SMALL, 0);
                fault(SMALL.substring(0, 2) + sign + SMALL.substring(2), 2);
                fault(SMALL.substring(0, 6) + sign + SMALL.substring(6), 6);
                fault(SMALL + sign, 11);
            }
            says("none within items (an item: a letter and all its figures)");
            for (int place = 0; place <= SMALL.length(); place++) {
                boolean between = place == 0 || place == 2 || place == 6 || place == 11;
                fault(SMALL.substring(0, place) + " " + SMALL.substring(place), between ? NONE : place);
            }
        }

        private static void everySignInEveryPlace() {
            for (char sign = 0; sign < 256; sign++) {
                says("a letter, a figure that is none such: its place (sign " + (int) sign + ")");
                boolean blank = sign == ' ';
                inPlace("?1r951a6300", sign, sign == 'h', blank ? 1 : 0);
                inPlace("h?r951a6300", sign, isFigure(sign, 0, 1), 1);
                inPlace("h1?951a6300", sign, "rspntw".indexOf(sign) >= 0, blank ? 3 : 2);
                inPlace("h1r?51a6300", sign, isFigure(sign, 1, 9), 3);
                inPlace("h1r9?1a6300", sign, isFigure(sign, 0, 5), 4);
                inPlace("h1r95?a6300", sign, isFigure(sign, 0, 9), 5);
                inPlace("h1r151?6300", sign, sign == 'a', blank ? 7 : "rspntw".indexOf(sign) < 0 ? 6 : 10);
                inPlace("h1r951a?363", sign, isFigure(sign, 0, 6), 7);
                inPlace("h1r951a5?63", sign, isFigure(sign, 0, 9), 8);
                inPlace("h1r951a6?00", sign, isFigure(sign, 0, 3), isFigure(sign, 4, 9) ? 7 : 8);
                inPlace("h1r951a63?3", sign, isFigure(sign, 0, 6), 9);
                inPlace("h1r951a635?", sign, isFigure(sign, 0, 9), 10);
                inPlace("h1r951a636?", sign, isFigure(sign, 0, 3), isFigure(sign, 4, 9) ? 9 : 10);
            }
        }

        private static boolean isFigure(char sign, int low, int high) {
            return sign >= '0' + low && sign <= '0' + high;
        }

        private static void inPlace(String pattern, char sign, boolean goesOn, int fault) {
            fault(pattern.replace('?', sign), goesOn ? NONE : fault);
        }

        private static void head() {
            says("First h (104) and whether there is FROST (0, 1, one figure)");
            run("h0r100a0000", "count 3 = 0");
            run("h1r100a0000", "count 3 = 1");
            fault("r100a0000", 0);
            fault("a0000", 0);
            fault("  r100a0000", 2);
            fault("h00r100a0000", 2);
            fault("h01r100a0000", 2);
            says("First h: not once more");
            fault("h0h0r100a0000", 2);
            fault("h0r100h0a0000", 6);
            fault("h0r100a0000h0", 11);
            fault("h0r100a0000 h0", 12);
        }

        private static void figures() {
            says("its STRAIN at first (0 .. STRENGTH)");
            for (int strength = 1; strength <= 9; strength++) {
                for (int strain = 0; strain <= 9; strain++) {
                    fault("h0r" + strength + "0" + strain + "a0000", strain <= strength ? NONE : 5);
                }
                fine("h0r100s" + strength + "0" + strength + "a0000");
            }
            fault("h0r100p101 n102a0000", 14);
            says("its STRENGTH (1 .. 9)");
            fault("h0r000a0000", 3);
            fault("h0 r 100a0000", 4);
            says("which ROPE it MOVES (0 .. 5)");
            fine("h0r150a0000");
            fault("h0r160a0000", 4);
            says("00 .. 63, two figures each; two figures above 63: the place of the first of both");
            for (int set = 0; set < 100; set++) {
                String two = set < 10 ? "0" + set : String.valueOf(set);
                fault("h0r100a" + two + "00", set <= 63 ? NONE : 7);
                fault("h0r100a00" + two, set <= 63 ? NONE : 9);
                fault("h0r100a6363a63" + two, set <= 63 ? NONE : 14);
            }
            fault("h0r100a6464", 7);
            fault("h0r100a64", 7);
            fault("h0r100a0064a", 9);
            says("two figures above 63: both are figures");
            fault("h0r100a7x00", 8);
            fault("h0r100ax700", 7);
            fault("h0r100a7 00", 8);
            fault("h0r100a7", 8);
            for (char first = '0'; first <= '9'; first++) {
                fault("h0r100a" + first, 8);
                fault("h0r100a" + first + "x00", 8);
                fault("h0r100a" + first + " 00", 8);
                fault("h0r100a00" + first, 10);
                fault("h0r100a00" + first + "x", 10);
            }
        }

        private static void numbersOfItems() {
            String ropes = "h0r100s100p100n100t100w100";
            says("Then ROPES (1 to 6); a seventh ROPE: its place");
            for (int number = 1; number <= 6; number++) {
                fine(ropes.substring(0, 2 + 4 * number) + "a0000");
            }
            for (String letter : List.of("r", "s", "p", "n", "t", "w")) {
                fault(ropes + letter + "100a0000", 26);
                fault(ropes + "  " + letter + "100a0000", 28);
                fault(ropes + letter, 26);
            }
            says("an ACT ahead of all ROPES: its place");
            fault("h0a0000", 2);
            fault("h0 a0000r100", 3);
            fault("h0a", 2);
            fault("h0a6400r100a0000", 2);
            says("a ROPE behind an ACT: its place");
            for (String letter : List.of("r", "s", "p", "n", "t", "w")) {
                fault("h0r100a0000" + letter + "100", 11);
                fault("h0r100a0000 " + letter + "100a0000", 12);
                fault("h0r100a0000" + letter, 11);
            }
            says("Then ACTS (1 to 4); a fifth ACT: its place");
            String acts = "h0r100";
            for (int number = 1; number <= 4; number++) {
                acts += "a0000";
                fine(acts);
            }
            fault(acts + "a0000", 26);
            fault(acts + "   a0000", 29);
            fault(acts + "a", 26);
            fault(acts + "r100", 26);
            run(ropes + "a6300a0063a0000a2121", "count 0 = 6; count 1 = 4; lawful = 6");
            run("h0r100a0000", "count 0 = 1; count 1 = 1; lawful = 1");
        }

        private static void endsThatComeTooEarly() {
            says("the TEXT's size, if its end comes too early");
            for (int size = 0; size < SMALL.length(); size++) {
                String part = SMALL.substring(0, size);
                fault(part, size);
                boolean between = size == 0 || size == 2 || size == 6;
                fault(part + " ", between ? size + 1 : size);
                fault(part + " ".repeat(60 - size), between ? 60 : size);
            }
            fine(SMALL);
            fine(SMALL + " ".repeat(49));
            fault(SMALL + "a000", 15);
            fine(SMALL + "a0000");
            says("also without an ACT");
            fault("h0r100", 6);
            fault("h0r100s100p100n100t100w100", 26);
            says("or there are blanks alone");
            fault("", 0);
            fault(" ", 1);
            fault(" ".repeat(59), 59);
            fault(" ".repeat(60), 60);
        }

        private static void kindsAndLetters() {
            says("KINDS of ROPES and letters");
            String letters = "rspntw";
            for (int kind = 0; kind < 6; kind++) {
                run("h0" + letters.charAt(kind) + "910a0000", "rope 0 0 = 1 told " + kind);
            }
            run("h0w100t100n100p100s100r100a0000", "rope 0 0 = 1 told 5; rope 1 0 = 1 told 4; rope 2 0 = 1 told 3",
                "rope 3 0 = 1 told 2; rope 4 0 = 1 told 1; rope 5 0 = 1 told 0");
            says("its own number, or one that there is not: none");
            run("h0r100a0000", "rope 0 2 = 1 told NONE");
            run("h0r110a0000", "rope 0 2 = 1 told NONE");
            run("h0r110r120a0000", "rope 0 2 = 1 told 1; rope 1 2 = 1 told NONE");
            run("h0r110r120r120a0000", "rope 1 2 = 1 told 2; rope 2 2 = 1 told NONE");
            run("h0r150r100r110r120r130a0000", "rope 0 2 = 1 told NONE; rope 1 2 = 1 told 0; rope 4 2 = 1 told 3");
            run("h0r150r100r110r120r130r150a0000", "rope 0 2 = 1 told 5; rope 5 2 = 1 told NONE");
            says("ROPES that there are not are of no matter");
            run("h0r101a6300a0162a0262a0062", "lawful = 15");
            run("h0r101r101a6300a0060a0002a0102", "lawful = 3");
            run("h0r100a6200a0063a0100a6300", "lawful = 3");
        }

        private static void whatItPasses() {
            says("Of a strain of n that comes to it a ROPE PASSES");
            for (int n = 0; n <= 99; n++) {
                int oneLess = n == 0 ? 0 : n - 1;
                run(SIX, "passes 0 " + n + " = " + n / 2 + "; passes 1 " + n + " = " + n
                    + "; passes 2 " + n + " = " + oneLess + "; passes 3 " + n + " = 0; passes 4 " + n + " = "
                    + oneLess / 2 + "; passes 5 " + n + " = 0");
            }
            says("half (cut)");
            run(SIX, "passes 0 1 = 0; passes 0 2 = 1; passes 0 3 = 1; passes 0 99 = 49");
            says("a RUNNING one 1 less (0 at least)");
            run(SIX, "passes 2 0 = 0; passes 2 1 = 0; passes 2 2 = 1");
            says("a WIDOW half (cut) of what a RUNNING one does");
            run(SIX, "passes 4 0 = 0; passes 4 1 = 0; passes 4 2 = 0; passes 4 3 = 1; passes 4 4 = 1",
                "passes 4 5 = 2");
        }

        private static void whatItHolds() {
            says("A ROPE HOLDS as much as its STRENGTH, a SPLICE 1 less");
            for (char letter : "rspntw".toCharArray()) {
                for (int strength = 1; strength <= 9; strength++) {
                    int holds = letter == 'p' ? strength - 1 : strength;
                    run("h0" + letter + strength + "00a0000", "rope 0 1 = 1 told " + holds,
                        holds == 0 ? "" : "haul 0 " + holds + " = 0; count 6 = 0", "haul 0 1 = 1; count 6 = 1");
                }
            }
        }
    }

    /** A HAUL, and how ROPES are let go, made off, cut, spliced. */
    private static final class Hauls {
        static void all() {
            whetherItParts();
            whatGoesOn();
            rings();
            frost();
            tautAndLawful();
            othersOfTheDeeds();
        }

        private static void whetherItParts() {
            says("if it is above what it HOLDS, the ROPE PARTS (its STRAIN is 0 then)");
            run("h0r500a0000", "haul 0 5 = 0; rope 0 3 = 1 told 5; rope 0 5 = 1 told 0; haul 0 1 = 1",
                "rope 0 3 = 1 told 0; rope 0 5 = 1 told 1; rope 0 4 = 1 told 1; haul 0 1 = STATE");
            run("h0r500a0000", "haul 0 6 = 1; count 7 = 0");
            run("h0p500a0000", "haul 0 4 = 0; count 7 = 4; undo 0 = 1; haul 0 5 = 1; count 7 = 0");
            run("h0r503a0000", "haul 0 2 = 0; count 7 = 5; undo 0 = 1; haul 0 3 = 1");
            run("h0r900a0000", "haul 0 9 = 0; haul 0 9 = 1");
            says("and nothing goes on");
            run("h0p310p900a0000", "haul 0 2 = 0; rope 1 3 = 1 told 2; undo 0 = 1; haul 0 3 = 1",
                "rope 1 3 = 1 told 0; undo 0 = 1; moves 0 2 = 3 told NONE; moves 0 3 = 1 told 0");
            says("how many ROPES PARTED by it (0, 1): one behind it, too");
            run("h0p910r310a0000", "haul 0 3 = 0; undo 0 = 1; haul 0 4 = 1; count 6 = 2; rope 0 3 = 1 told 4");
            run("h0p910p920r330r900a0000", "haul 0 4 = 1; count 6 = 4; count 4 = 3; count 7 = 8");
            says("A SPLICE whose STRAIN is more than it HOLDS is so till it is hauled");
            run("h0p505p500r910a0000", "rope 0 3 = 1 told 5; rope 0 5 = 1 told 0; count 4 = 1; haul 1 2 = 1",
                "count 6 = 1; undo 0 = 1; haul 2 1 = 0; count 6 = 0; haul 0 1 = 1; count 6 = 1; count 7 = 1");
            run("h0p504a0000", "rope 0 3 = 1 told 4; haul 0 1 = 1");
            run("h0p503a0000", "haul 0 1 = 0; rope 0 3 = 1 told 4");
        }

        private static void whatGoesOn() {
            says("what it PASSES, if that is above 0, comes to the ROPE that it MOVES");
            run("h0r910r900a0000", "haul 0 1 = 0; rope 1 3 = 1 told 0; moves 0 1 = 1 told NONE",
                "moves 0 2 = 3 told NONE; haul 0 2 = 0; rope 1 3 = 1 told 1; rope 0 3 = 1 told 3");
            run("h0n910r900a0000", "moves 0 1 = 1; moves 0 2 = 3; haul 0 1 = 0; count 7 = 1; haul 0 2 = 0",
                "count 7 = 4");
            run("h0w910r900a0000", "moves 0 2 = 1; moves 0 3 = 3; haul 0 2 = 0; count 7 = 2; haul 0 3 = 0",
                "count 7 = 6");
            run("h0s910r900a0000", "moves 0 9 = 1; haul 0 9 = 0; count 7 = 9");
            run("h0t910r900a0000", "moves 0 9 = 1; haul 0 9 = 0; count 7 = 9");
            run("h0p910r900a0000", "moves 0 1 = 3; haul 0 1 = 0; count 7 = 2");
            run("h0r910r920r930r900a0000", "moves 0 7 = 7; moves 0 8 = 15; haul 0 8 = 0; count 7 = 15");
            says("if there is one");
            run("h0p900a0000", "haul 0 3 = 0; count 7 = 3; moves 0 1 = 1");
            run("h0p910a0000", "haul 0 3 = 0; count 7 = 3; moves 0 1 = 1");
            says("it is made off");
            run("h0p910p900a0000", "slack 1 = 0; haul 0 3 = 0; count 7 = 3; count 4 = 1; moves 0 3 = 1",
                "belay 1 = 0; moves 0 3 = 3; haul 0 3 = 0; count 7 = 9; rope 1 3 = 1 told 3");
            run("h0p910p920p900a0000", "slack 1 = 0; haul 0 3 = 0; count 4 = 1; moves 0 3 = 1");
            says("has not PARTED");
            run("h0p910p900a0000", "cut 1 = 1; haul 0 3 = 0; count 7 = 3; count 4 = 1; moves 0 3 = 1; splice 1 = 0",
                "moves 0 3 = 3; haul 0 3 = 0; count 7 = 9; rope 1 3 = 1 told 3");
        }

        private static void rings() {
            says("and no strain came to it by this HAUL yet");
            run("h0p910p900a0000", "haul 0 4 = 0; rope 0 3 = 1 told 4; rope 1 3 = 1 told 4; moves 0 4 = 3",
                "haul 1 4 = 0; rope 0 3 = 1 told 8; rope 1 3 = 1 told 8; haul 0 1 = 1; count 7 = 8");
            run("h0p910p920p910a0000", "haul 0 1 = 0; count 7 = 3; haul 1 1 = 0; count 7 = 5; haul 2 2 = 0",
                "count 7 = 9; moves 0 1 = 7; moves 1 1 = 6; moves 2 1 = 6");
            run("h0p910p920p930p940p950p900a0000", "haul 3 1 = 0; count 7 = 6; count 4 = 63; moves 5 8 = 32 told 5",
                "moves 5 7 = 63 told NONE; moves 2 1 = 63");
            run("h0n910n920n930n940n950n900a0000", "moves 0 6 = 63; moves 0 5 = 31; moves 0 9 = 63; haul 0 9 = 0",
                "count 7 = 39");
            run("h0p910p910a0000", "haul 1 3 = 0; count 7 = 3; haul 0 3 = 0; count 7 = 9");
        }

        private static void frost() {
            says("In FROST a haul is 1 more to the ROPE that is hauled, but to a TARRED one");
            run("h1r500a0000", "haul 0 4 = 0; count 7 = 5; undo 0 = 1; haul 0 5 = 1");
            run("h0r500a0000", "haul 0 5 = 0; count 7 = 5");
            run("h1t500a0000", "haul 0 5 = 0; count 7 = 5; undo 0 = 1; haul 0 6 = 1");
            run("h1s500a0000", "haul 0 4 = 0; count 7 = 5; undo 0 = 1; haul 0 5 = 1");
            run("h1p500a0000", "haul 0 3 = 0; count 7 = 4; undo 0 = 1; haul 0 4 = 1");
            run("h1n500a0000", "haul 0 4 = 0; count 7 = 5; undo 0 = 1; haul 0 5 = 1");
            run("h1w500a0000", "haul 0 4 = 0; count 7 = 5; undo 0 = 1; haul 0 5 = 1");
            says("to the ROPE that is hauled: not to those behind it");
            run("h1p910p920t900a0000", "haul 0 1 = 0; rope 0 3 = 1 told 2; rope 1 3 = 1 told 2",
                "rope 2 3 = 1 told 2");
            run("h1r910n900a0000", "haul 0 1 = 0; rope 0 3 = 1 told 2; rope 1 3 = 1 told 1");
            run("h1r900t900a0000", "frost 0 = 0; haul 0 1 = 0; count 7 = 1; frost 1 = 1; haul 0 1 = 0; count 7 = 3",
                "haul 1 1 = 0; count 7 = 4");
        }

        private static void tautAndLawful() {
            says("A ROPE is TAUT, if its STRAIN is above 0");
            run("h0r901r900a0100a0001a0200a0002", "count 4 = 1; lawful = 9; haul 1 1 = 0; count 4 = 3; lawful = 5",
                "slack 0 = 1; count 4 = 2; lawful = 6");
            says("An ACT is LAWFUL, if all ROPES that it NEEDS are TAUT, none that it FORBIDS is");
            run("h0r901r901r900a0300a0700a0004a0304", "lawful = 13; haul 2 1 = 0; lawful = 3; cut 1 = 1",
                "lawful = 0");
            run("h0r901r900a0000a0101a0003a0303", "lawful = 1; cut 0 = 1; lawful = 5");
            run("h0r900r900r900r900r900r901a3200a0032a3100a0031", "lawful = 9; slack 5 = 1; lawful = 10");
        }

        private static void othersOfTheDeeds() {
            says("LET GO a ROPE has STRAIN 0; MADE OFF it can be hauled again");
            run("h0r904a0000", "slack 0 = 4; rope 0 3 = 1 told 0; rope 0 4 = 1 told 0; haul 0 1 = STATE",
                "belay 0 = 0; rope 0 3 = 1 told 0; rope 0 4 = 1 told 1; haul 0 1 = 0; rope 0 3 = 1 told 1");
            says("CUT (LET GO or not) it is PARTED, its STRAIN is 0");
            run("h0r904r905a0000", "cut 0 = 1; rope 0 3 = 1 told 0; rope 0 5 = 1 told 1; slack 1 = 5; cut 1 = 2",
                "rope 1 5 = 1 told 1; count 6 = 3; count 7 = 0");
            run("h0r904r905a0000", "slack 0 = 4; cut 0 = 1; count 5 = 1; rope 0 4 = 1 told 0; cut 1 = 2; count 5 = 1",
                "rope 1 4 = 1 told 1; splice 0 = 1; count 5 = 0; splice 1 = 0; count 5 = 0");
            says("SPLICED it is so no more (STRAIN 0, made off)");
            run("h0r904r905a0000", "cut 0 = 1; splice 0 = 0; rope 0 3 = 1 told 0; rope 0 4 = 1 told 1",
                "rope 0 5 = 1 told 0; slack 1 = 5; cut 1 = 1; splice 1 = 0; rope 1 4 = 1 told 1",
                "rope 1 5 = 1 told 0; haul 1 1 = 0; haul 0 9 = 0");
            says("FROST comes, or goes");
            run("h0r904a0000", "frost 0 = STATE; frost 1 = 1; count 3 = 1; frost 1 = STATE; frost 0 = 0",
                "count 3 = 0");
            run("h1r904a0000", "frost 1 = STATE; frost 0 = 0; frost 0 = STATE; frost 1 = 1");
        }
    }

    /** Promises 2 to 9: ROWS and TEXTS. */
    private static final class Rows {
        static void all() {
            sizes();
            places();
            tear();
            copyRefused();
            copied();
            mean();
            textsAndBytes();
        }

        private static void sizes() {
            says("A ROW is there with n ints 0: n. BAD: also n above 40; SIZE: below 0");
            run("", "row 0 40 = 40; at 0 39 = 1 told 0; at 0 40 = BEYOND; row 0 41 = BAD; row 0 MOST = BAD");
            run("", "row 0 0 = 0; at 0 0 = BEYOND; row 0 -1 = SIZE; row 0 LEAST = SIZE; count 10 = 1");
            run("", "row 0 1 = 1; at 0 0 = 1 told 0; at 0 1 = BEYOND; row 1 41 = BAD; row 1 -1 = SIZE",
                "count 10 = 1");
            run("", "fill 0 7 8 9; row 0 2 = 2; holds 0 0 0; row 0 3 = 3; holds 0 0 0 0; row 0 0 = 0; holds 0");
            run("", "fill 0 7 8 9; row 0 41 = BAD; row 0 -1 = SIZE; holds 0 7 8 9");
        }

        private static void places() {
            says("Place i of a ROW is v: what it was, told by asked(): 1. BAD; NOTHING; BEYOND");
            run("", "row 2 3 = 3; lay 2 0 5 = 1 told 0; lay 2 2 MOST = 1 told 0; lay 2 0 LEAST = 1 told 5",
                "lay 2 3 1 = BEYOND; lay 2 -1 1 = BEYOND; lay 2 MOST 1 = BEYOND; lay 2 LEAST 1 = BEYOND",
                "lay 3 0 1 = NOTHING; lay 3 -1 1 = NOTHING; holds 2 LEAST 0 MOST");
            run("", "row 5 40 = 40; lay 5 39 -1 = 1 told 0; lay 5 40 -1 = BEYOND; row 0 0 = 0; lay 0 0 1 = BEYOND");
            says("Place i of a ROW, told by asked(): 1. BAD; NOTHING; BEYOND");
            run("", "fill 0 LEAST -1 MOST; at 0 0 = 1 told LEAST; at 0 1 = 1 told -1; at 0 2 = 1 told MOST",
                "at 0 3 = BEYOND; at 0 -1 = BEYOND; at 0 MOST = BEYOND; at 0 LEAST = BEYOND; at 1 0 = NOTHING");
            run("", "row 0 0 = 0; at 0 0 = BEYOND; at 0 -1 = BEYOND; at 1 -1 = NOTHING");
        }

        private static void tear() {
            says("A ROW is missing: 1. BAD; NOTHING");
            run("", "fill 0 4 5; row 1 0 = 0; tear 0 = 1; count 10 = 1; tear 0 = NOTHING; at 0 0 = NOTHING",
                "mean 0 = NOTHING; lay 0 0 1 = NOTHING; copy 0 0 1 0 0 = NOTHING; copy 1 0 0 0 0 = NOTHING");
            run("", "row 1 0 = 0; tear 1 = 1; tear 1 = NOTHING; row 1 2 = 2; holds 1 0 0; tear 1 = 1",
                "count 10 = 0");
        }

        private static void copyRefused() {
            says("BAD; SIZE: n below 0; NOTHING: either; BEYOND: not so many there (In this order.)");
            run("", "row 0 2 = 2; copy 6 0 0 0 -1 = BAD; copy 0 0 6 0 -1 = BAD; copy -1 0 0 0 1 = BAD",
                "copy 0 0 -1 0 1 = BAD; copy 5 0 6 0 0 = BAD; copy 6 0 5 0 0 = BAD");
            run("", "row 0 2 = 2; copy 5 0 0 0 -1 = SIZE; copy 0 0 5 0 -1 = SIZE; copy 0 9 0 9 -1 = SIZE",
                "copy 0 0 0 0 LEAST = SIZE; copy 0 0 0 0 0 = 1; copy 4 0 5 0 -1 = SIZE");
            run("", "row 0 2 = 2; copy 5 -1 0 0 0 = NOTHING; copy 0 -1 5 0 0 = NOTHING; copy 0 9 5 9 9 = NOTHING",
                "copy 5 0 5 0 0 = NOTHING; row 5 0 = 0; copy 5 0 5 0 0 = 1");
            says("BEYOND: not so many there");
            run("", "fill 0 1 2 3; fill 1 4 5; copy 0 0 1 0 3 = BEYOND; copy 1 0 0 0 3 = BEYOND",
                "copy 0 2 1 0 2 = BEYOND; copy 0 0 1 1 2 = BEYOND; copy 0 3 1 0 1 = BEYOND",
                "copy 0 0 1 2 1 = BEYOND; copy 0 -1 1 0 1 = BEYOND; copy 0 0 1 -1 1 = BEYOND; holds 0 1 2 3",
                "holds 1 4 5");
            run("", "fill 0 1 2 3; fill 1 4 5; copy 0 1 1 0 MOST = BEYOND; copy 0 MOST 1 0 1 = BEYOND",
                "copy 0 0 1 MOST 1 = BEYOND; copy 0 MOST 1 MOST MOST = BEYOND; copy 0 LEAST 1 0 1 = BEYOND",
                "copy 0 0 1 LEAST 1 = BEYOND; copy 0 0 1 0 41 = BEYOND");
            says("(with n 0, too, if i or j is below 0 or above the size)");
            run("", "fill 0 1 2 3; fill 1 4 5; copy 0 3 1 2 0 = 1; copy 0 4 1 2 0 = BEYOND",
                "copy 0 3 1 3 0 = BEYOND; copy 0 -1 1 0 0 = BEYOND; copy 0 0 1 -1 0 = BEYOND; copy 0 0 1 0 0 = 1",
                "copy 0 MOST 1 0 0 = BEYOND; copy 0 0 1 LEAST 0 = BEYOND; holds 0 1 2 3; holds 1 4 5");
            run("", "row 0 0 = 0; row 1 0 = 0; copy 0 0 1 0 0 = 1; copy 0 1 1 0 0 = BEYOND",
                "copy 0 0 1 1 0 = BEYOND; copy 0 0 1 0 1 = BEYOND; row 2 40 = 40; copy 2 40 1 0 0 = 1",
                "copy 2 41 1 0 0 = BEYOND");
        }

        private static void copied() {
            says("n places of a ROW, from one on, come to those of another one, as if taken ahead: 1");
            run("", "fill 0 1 2 3; fill 1 4 5; copy 0 1 1 0 2 = 1; holds 1 2 3; holds 0 1 2 3");
            run("", "fill 0 1 2 3; fill 1 4 5; copy 1 0 0 1 2 = 1; holds 0 1 4 5; holds 1 4 5");
            run("", "fill 0 1 2 3; fill 1 4 5; copy 0 2 1 1 1 = 1; holds 1 4 3");
            run("", "row 0 40 = 40; row 1 40 = 40; lay 0 0 1 = 1; lay 0 39 2 = 1; copy 0 0 1 0 40 = 1",
                "at 1 0 = 1 told 1; at 1 39 = 1 told 2; copy 0 0 1 0 41 = BEYOND; copy 0 1 1 0 40 = BEYOND",
                "copy 0 1 1 0 39 = 1; at 1 38 = 1 told 2; at 1 0 = 1 told 0");
            says("(perhaps itself)");
            run("", "fill 0 1 2 3 4 5; copy 0 0 0 1 4 = 1; holds 0 1 1 2 3 4");
            run("", "fill 0 1 2 3 4 5; copy 0 1 0 0 4 = 1; holds 0 2 3 4 5 5");
            run("", "fill 0 1 2 3 4 5; copy 0 0 0 0 5 = 1; holds 0 1 2 3 4 5; copy 0 0 0 1 5 = BEYOND");
        }

        private static void mean() {
            says("The mean of a ROW's ints, cut, told by asked(): 1");
            run("", "fill 0 1 2; mean 0 = 1 told 1; fill 0 2 2; mean 0 = 1 told 2; fill 0 1 2 3; mean 0 = 1 told 2",
                "fill 0 0 0 2; mean 0 = 1 told 0; fill 0 5; mean 0 = 1 told 5; fill 0 -1 -2; mean 0 = 1 told -1",
                "fill 0 -2 -2; mean 0 = 1 told -2; fill 0 -1 0; mean 0 = 1 told 0");
            run("", "fill 0 MOST MOST; mean 0 = 1 told MOST; fill 0 LEAST LEAST; mean 0 = 1 told LEAST",
                "fill 0 LEAST MOST; mean 0 = 1 told 0; fill 0 LEAST LEAST MOST; mean 0 = 1 told -715827883");
            StringBuilder forty = new StringBuilder("fill 0");
            for (int i = 0; i < 40; i++) {
                forty.append(" MOST");
            }
            run("", forty.toString(), "mean 0 = 1 told MOST; lay 0 0 LEAST = 1; mean 0 = 1 told 2040109464");
            says("BAD; NOTHING; NOUGHT");
            run("", "row 0 0 = 0; mean 0 = NOUGHT; mean 1 = NOTHING; row 0 1 = 1; mean 0 = 1 told 0; tear 0 = 1",
                "mean 0 = NOTHING");
        }

        private static void textsAndBytes() {
            says("A TEXT is there with n blanks: n. BAD: also n above 60; SIZE: below 0");
            run("", "text 0 60 = 60; put 0 59 1 = 1032; put 0 60 1 = BEYOND; text 0 61 = BAD; text 0 MOST = BAD");
            run("", "text 0 0 = 0; put 0 0 1 = BEYOND; text 0 -1 = SIZE; text 0 LEAST = SIZE; count 11 = 1");
            run("", "text 3 1 = 1; put 3 0 7 = 1032; text 3 1 = 1; put 3 0 7 = 1032; put 3 0 8 = 1007",
                "text 2 61 = BAD; text 3 61 = BAD; text 3 -1 = SIZE; put 3 0 9 = 1008; count 11 = 1");
            says("Byte i of a TEXT is v, cut to a byte (-128 .. 127): what it was, and 1000 more");
            run("", "text 0 1 = 1; put 0 0 127 = 1032; put 0 0 128 = 1127; put 0 0 -128 = 872; put 0 0 -129 = 872",
                "put 0 0 255 = 1127; put 0 0 256 = 999; put 0 0 257 = 1000; put 0 0 -1 = 1001; put 0 0 MOST = 999",
                "put 0 0 LEAST = 999; put 0 0 -256 = 1000; put 0 0 -257 = 1000; put 0 0 0 = 999");
            run("", "write 0 'h0r100a0000'; put 0 0 -152 = 1104; fault 0 = NONE; put 0 0 360 = 1104",
                "fault 0 = NONE; put 0 0 359 = 1104; fault 0 = 0");
            says("Byte i of a TEXT: BAD; NOTHING; BEYOND");
            run("", "text 0 2 = 2; put 0 -1 1 = BEYOND; put 0 2 1 = BEYOND; put 0 1 1 = 1032; put 0 0 1 = 1032",
                "put 0 MOST 1 = BEYOND; put 0 LEAST 1 = BEYOND; put 1 0 1 = NOTHING; put 1 -1 1 = NOTHING");
        }
    }

    /** Promises 10 to 13: a COURT, its ROPES, what they tell. */
    private static final class Courts {
        static void all() {
            faultAside();
            courtAnew();
            rope();
            stays();
            splices();
            runningOnes();
            tarredOnesAndWidows();
        }

        private static void faultAside() {
            says("A FAULT of a TEXT; NONE: there is none. BAD; NOTHING");
            run("h0r905r905a0300", "write 1 'h1p100a0000'; fault 1 = NONE; rope 0 1 = 1 told 9; count 0 = 2",
                "count 3 = 0; write 1 'h1p100w300x'; fault 1 = 10; rope 1 1 = 1 told 9; lawful = 1; count 7 = 10");
            run("", "fault 0 = NOTHING; text 0 0 = 0; fault 0 = 0; text 0 1 = 1; fault 0 = 1; court 0 = STATE");
            says("STATE: a FAULT. (STATE behind NOTHING.)");
            run("h1r905r905a0300", "write 1 'h0s101s101s100a00'; court 1 = STATE; count 0 = 2; count 1 = 1",
                "count 3 = 1; court 2 = NOTHING; rope 0 0 = 1 told 0; rope 0 1 = 1 told 9; lawful = 1",
                "haul 0 3 = 0; court 1 = STATE");
            run("", "write 1 'h0r100'; court 1 = STATE; write 1 'h0r100a0000'; court 1 = 1; court 1 = 1");
        }

        private static void courtAnew() {
            says("A COURT by a TEXT (anew: all made off, nothing PARTED, no DEEDS; kept COURTS go)");
            run("h1r905r905r905a0100a0200", "keep 0 = 0; slack 0 = 5; cut 1 = 1; frost 0 = 0; keep 1 = 3",
                "keep 2 = 3; court 0 = 3; count 2 = 0; count 3 = 1; count 4 = 7; count 5 = 0; count 6 = 0",
                "count 7 = 15; count 12 = 0; on 0 = NOTHING; on 1 = NOTHING; on 2 = NOTHING; undo 1 = BAD",
                "undo 0 = 0");
            run("h1r905r905r905a0100a0200", "slack 2 = 5; write 3 'h0w421a0001'; court 3 = 1; count 0 = 1",
                "count 1 = 1; count 3 = 0; count 7 = 1; rope 0 0 = 1 told 5; rope 1 0 = BAD",
                "rope 0 2 = 1 told NONE; odds 1 0 = BAD; count 8 = 0; count 9 = 1; court 0 = 3",
                "rope 2 3 = 1 told 5; rope 2 4 = 1 told 1; odds 1 0 = 1 told 1/1");
            says("ROPES of an earlier COURT are no more");
            run("h1r905r905r905r905r905r905a6300", "write 1 'h0r900a0100'; court 1 = 1; count 7 = 0; court 1 = 1",
                "count 4 = 0; count 7 = 0; count 3 = 0; undo 0 = 0; court 0 = 6; fault 1 = NONE; court 1 = 1; count 4 = 0",
                "court 1 = 1; count 7 = 0; lawful = 0; write 2 'h1r905r905a'; fault 2 = 11; court 1 = 1; count 7 = 0",
                "count 3 = 0; court 2 = STATE; court 1 = 1; count 4 = 0; count 3 = 0");
            run("h0r905r905r905r905r905r905a3200", "write 1 'h0r900a6300'; court 1 = 1; lawful = 0; count 4 = 0",
                "count 7 = 0; haul 0 1 = 0; lawful = 1; court 0 = 6; lawful = 1; write 0 'h'; court 0 = STATE",
                "count 7 = 30");
        }

        private static void rope() {
            says("Of a ROPE: 0 the KIND, 1 what it HOLDS, 2 which it MOVES, 3 its STRAIN, 4, 5 (1, 0)");
            run("h0p915r904a0000", "rope 0 0 = 1 told 2; rope 0 1 = 1 told 8; rope 0 2 = 1 told 1",
                "rope 0 3 = 1 told 5; rope 0 4 = 1 told 1; rope 0 5 = 1 told 0; slack 0 = 5; rope 0 4 = 1 told 0",
                "rope 0 5 = 1 told 0; cut 1 = 1; rope 1 4 = 1 told 1; rope 1 5 = 1 told 1; rope 1 3 = 1 told 0",
                "rope 1 1 = 1 told 9");
            says("told by asked(): 1. BAD");
            run("h0p915r904a0000", "rope 1 5 = 1 told 0; rope 2 5 = BAD; rope -1 5 = BAD; rope 1 6 = BAD",
                "rope 1 -1 = BAD; rope MOST 0 = BAD; rope LEAST 0 = BAD; rope 0 MOST = BAD; rope 0 LEAST = BAD",
                "rope 0 0 = 1 told 2");
            run("h0r100r100r100r100r100w100a0000", "rope 5 0 = 1 told 5; rope 6 0 = BAD");
        }

        private static void stays() {
            says("What a ROPE that IS of a KIND tells. BAD: also KIND 0; UNLIKE");
            run(SIX, "mark 3 0 = BAD; mark 3 6 = BAD; mark 3 -1 = BAD; mark 6 1 = BAD; mark -1 1 = BAD",
                "mark 3 1 = 1; mark 0 1 = UNLIKE; mark 0 2 = UNLIKE; mark 0 3 = UNLIKE; mark 0 4 = UNLIKE",
                "mark 0 5 = UNLIKE");
            run(SIX, "mark 1 1 = UNLIKE; mark 1 3 = UNLIKE; mark 1 4 = UNLIKE; mark 1 5 = UNLIKE; mark 1 2 = 1",
                "mark 2 1 = UNLIKE; mark 2 2 = UNLIKE; mark 2 4 = UNLIKE; mark 2 5 = UNLIKE; mark 2 3 = 1");
            run(SIX, "mark 3 2 = UNLIKE; mark 3 3 = UNLIKE; mark 3 4 = UNLIKE; mark 3 5 = UNLIKE; mark 3 1 = 1",
                "mark 4 1 = UNLIKE; mark 4 2 = UNLIKE; mark 4 4 = UNLIKE; mark 4 3 = 0; mark 4 5 = 4");
            run(SIX, "mark 5 2 = UNLIKE; mark 5 3 = UNLIKE; mark 5 5 = UNLIKE; mark 5 1 = 8; mark 5 4 = 1",
                "mark 5 0 = BAD; mark MOST 1 = BAD; mark LEAST 1 = BAD; mark 5 MOST = BAD; mark 5 LEAST = BAD");
            says("a STAY (TARRED, too) how much more it HOLDS than its STRAIN");
            run("h0s909t505s500a0000", "mark 0 1 = 0; mark 1 1 = 0; mark 2 1 = 5; haul 2 4 = 0; mark 2 1 = 1",
                "haul 2 1 = 0; mark 2 1 = 0; haul 2 1 = 1; mark 2 1 = 5; slack 0 = 9; mark 0 1 = 9; cut 1 = 2",
                "mark 1 1 = 5");
        }

        private static void splices() {
            says("a SPLICE how many others MOVE the same ROPE as it does (0: it MOVES none)");
            run("h0p920p920r900a0000", "mark 0 2 = 1; mark 1 2 = 1");
            run("h0p920r910r900a0000", "mark 0 2 = 0");
            run("h0p950s950t950n950w950p900a0000", "mark 0 2 = 4; mark 5 2 = 0; cut 1 = 1; slack 2 = 0",
                "mark 0 2 = 4");
            run("h0p900p950p950r900a0000", "mark 0 2 = 0; mark 1 2 = 0; mark 2 2 = 0");
            run("h0p900a0000", "mark 0 2 = 0");
            run("h0p910p910p910a0000", "mark 0 2 = 1; mark 2 2 = 1; mark 1 2 = 0");
        }

        private static void runningOnes() {
            says("a RUNNING one (WIDOW, too) what it would PASS of its STRAIN");
            run("h0n900w910a0000", "mark 0 3 = 0; mark 1 3 = 0; haul 0 1 = 0; haul 1 1 = 0; mark 0 3 = 0",
                "mark 1 3 = 0; haul 0 1 = 0; haul 1 1 = 0; mark 0 3 = 1; mark 1 3 = 0; haul 0 1 = 0; haul 1 1 = 0",
                "mark 0 3 = 2; mark 1 3 = 1; haul 0 6 = 0; haul 1 6 = 0; mark 0 3 = 8; mark 1 3 = 4; slack 0 = 9",
                "mark 0 3 = 0");
        }

        private static void tarredOnesAndWidows() {
            says("a TARRED one how many others MOVE it");
            run("h0t900a0000", "mark 0 4 = 0");
            run("h0t900r900p900n900w900s900a0000", "mark 0 4 = 5; cut 1 = 1; slack 2 = 0; mark 0 4 = 5");
            run("h0t910t900t950a0000", "mark 0 4 = 1; mark 1 4 = 1; mark 2 4 = 0");
            says("a WIDOW how many others are TAUT");
            run("h0w900a0000", "mark 0 5 = 0; haul 0 1 = 0; mark 0 5 = 0");
            run("h0w905r901r901r901r901r901a0000", "mark 0 5 = 5; cut 1 = 1; slack 5 = 1; mark 0 5 = 3; cut 0 = 2",
                "mark 0 5 = 3");
            run("h0w900r900a0000", "mark 0 5 = 0; haul 1 1 = 0; mark 0 5 = 1");
        }
    }

    /** Promises 14 to 22: what is done, undone, kept. */
    private static final class Deeds {
        static void all() {
            haul();
            slackAndBelay();
            cutAndSplice();
            frost();
            undo();
            keepAndOn();
        }

        private static void haul() {
            says("A HAUL by n (1 .. 9): how many ROPES PARTED by it (0, 1). BAD; STATE");
            run("h0r900r900a0000", "haul 0 0 = BAD; haul 0 1 = 0; haul 0 10 = BAD; undo 0 = 1; haul 0 9 = 0",
                "count 2 = 1; haul 0 -1 = BAD; haul 0 MOST = BAD; haul 0 LEAST = BAD; haul 2 1 = BAD",
                "haul -1 1 = BAD; haul 1 1 = 0");
            says("STATE: it has PARTED, or is LET GO");
            run("h0r900r900a0000", "slack 0 = 0; haul 0 1 = STATE; belay 0 = 0; haul 0 1 = 0; haul 0 9 = 1",
                "haul 0 1 = STATE; splice 0 = 0; haul 0 1 = 0; cut 0 = 1; haul 0 1 = STATE; count 2 = 7");
        }

        private static void slackAndBelay() {
            says("LET GO: the STRAIN that was. BAD; STATE: it has PARTED, or is so");
            run("h0r909r900a0000", "slack 2 = BAD; slack -1 = BAD; slack 0 = 9; slack 0 = STATE; slack 1 = 0",
                "slack 1 = STATE; count 5 = 3; count 2 = 2");
            run("h0r909r900a0000", "cut 0 = 1; slack 0 = STATE; splice 0 = 0; slack 0 = 0; slack MOST = BAD",
                "slack LEAST = BAD");
            run("h0p505a0000", "slack 0 = 5; belay 0 = 0; rope 0 3 = 1 told 0");
            says("MADE OFF: how many are LET GO yet. BAD; STATE: it has PARTED, or is so");
            run("h0r909r900a0000", "belay 0 = STATE; slack 0 = 9; slack 1 = 0; belay 0 = 1; belay 0 = STATE",
                "belay 1 = 0; belay 1 = STATE; belay 2 = BAD; belay -1 = BAD; count 5 = 0; count 7 = 0");
            run("h0r909r900a0000", "slack 0 = 9; cut 0 = 1; belay 0 = STATE; cut 1 = 2; belay 1 = STATE",
                "belay MOST = BAD; belay LEAST = BAD");
            run("h0r900r900r900r900r900r900a0000", "slack 0 = 0; slack 1 = 0; slack 2 = 0; slack 3 = 0",
                "slack 4 = 0; slack 5 = 0; count 5 = 63; belay 5 = 5; belay 0 = 4; count 5 = 30; slack 6 = BAD",
                "belay 6 = BAD");
        }

        private static void cutAndSplice() {
            says("CUT: how many have PARTED. BAD; STATE: it has");
            run("h0r909r100a0000", "cut 2 = BAD; cut -1 = BAD; cut 0 = 1; cut 0 = STATE; haul 1 2 = 1",
                "cut 1 = STATE; count 6 = 3; splice 1 = 1; cut 1 = 2; cut MOST = BAD; cut LEAST = BAD");
            run("h0r909r100a0000", "slack 0 = 9; cut 0 = 1; cut 0 = STATE; cut 1 = 2; count 2 = 3");
            says("SPLICED: how many have PARTED yet. BAD; STATE: it has not");
            run("h0r909r100a0000", "splice 0 = STATE; cut 0 = 1; cut 1 = 2; splice 0 = 1; splice 0 = STATE",
                "splice 1 = 0; splice 1 = STATE; splice 2 = BAD; splice -1 = BAD; splice MOST = BAD",
                "splice LEAST = BAD; count 6 = 0");
            run("h0r909r100a0000", "slack 0 = 9; splice 0 = STATE; cut 0 = 1; splice 0 = 0; count 5 = 0",
                "count 7 = 0; belay 0 = STATE");
            run("h0r900r900r900r900r900r900a0000", "cut 5 = 1; cut 0 = 2; cut 1 = 3; cut 2 = 4; cut 3 = 5",
                "cut 4 = 6; cut 6 = BAD; count 6 = 63; splice 6 = BAD; splice 5 = 5; count 6 = 31; moves 5 1 = 32");
        }

        private static void frost() {
            says("FROST comes (1), or goes (0): whether there is some. BAD; STATE: no ROPES, it is so");
            run("", "frost 1 = STATE; frost 0 = STATE; frost 2 = BAD; frost -1 = BAD; count 2 = 0");
            run("h0r900a0000", "frost 2 = BAD; frost -1 = BAD; frost MOST = BAD; frost LEAST = BAD",
                "frost 0 = STATE; frost 1 = 1; frost 1 = STATE; count 3 = 1; frost 0 = 0; frost 0 = STATE",
                "count 3 = 0; count 2 = 2");
            run("h1r900a0000", "frost 1 = STATE; frost 0 = 0; count 3 = 0; undo 0 = 1; count 3 = 1");
        }

        private static void undo() {
            says("DEEDS from number n on (0 to how many there are: none then) are undone: how many. BAD");
            run("h0r909r100a0000", "undo 1 = BAD; undo 0 = 0; slack 0 = 9; cut 1 = 1; frost 1 = 1; undo 4 = BAD",
                "undo 3 = 0; undo -1 = BAD; undo LEAST = BAD; undo MOST = BAD; count 3 = 1; undo 2 = 1",
                "count 3 = 0; count 6 = 2; undo 3 = BAD; undo 0 = 2; count 5 = 0; count 6 = 0; count 7 = 9",
                "undo 0 = 0; undo 1 = BAD");
            run("h0r909r100a0000", "slack 0 = 9; belay 0 = 0; cut 0 = 1; splice 0 = 0; haul 0 3 = 0; undo 5 = 0",
                "undo 4 = 1; count 7 = 0; undo 3 = 1; count 6 = 1; undo 2 = 1; count 6 = 0; undo 1 = 1",
                "count 5 = 1; undo 0 = 1; count 7 = 9");
            run("h0p910r200a0000", "haul 0 2 = 0; haul 0 1 = 1; count 6 = 2; undo 1 = 1; count 6 = 0; count 7 = 4",
                "haul 1 1 = 1");
        }

        private static void keepAndOn() {
            says("The COURT (as it is, DEEDS) is kept in a place (0 .. 2): how many DEEDS. BAD; STATE: no ROPES");
            run("h0r909r100a0000", "keep 3 = BAD; keep -1 = BAD; keep MOST = BAD; keep LEAST = BAD; keep 0 = 0",
                "keep 2 = 0; slack 0 = 9; keep 2 = 1; keep 1 = 1; count 12 = 3");
            run("", "keep 0 = STATE; keep 2 = STATE; keep 3 = BAD; keep -1 = BAD; count 12 = 0");
            says("The COURT is as it was kept: how many DEEDS. BAD; NOTHING");
            run("h0r909r100a0000", "on 0 = NOTHING; on 3 = BAD; on -1 = BAD; on MOST = BAD; on LEAST = BAD",
                "slack 0 = 9; cut 1 = 1; keep 2 = 2; undo 0 = 2; frost 1 = 1; on 2 = 2; count 3 = 0; count 5 = 1",
                "count 6 = 2; undo 1 = 1; count 6 = 0; undo 0 = 1; count 7 = 9; on 2 = 2; on 0 = NOTHING",
                "on 1 = NOTHING");
            run("h0r909r100a0000", "keep 0 = 0; haul 1 1 = 0; keep 1 = 1; haul 1 1 = 1; keep 2 = 2; on 0 = 0",
                "count 7 = 9; on 1 = 1; count 7 = 10; on 2 = 2; count 7 = 9; count 6 = 2; on 0 = 0; count 6 = 0",
                "count 12 = 3");
            run("h0r909r100a0000", "keep 0 = 0; cut 0 = 1; on 0 = 0; cut 1 = 1; count 6 = 2; on 0 = 0; count 6 = 0",
                "keep 0 = 0");
            says("The COURT is as it was kept: each of its DEEDS, whatever was done since");
            run("h0r909r100a0000", "slack 0 = 9; cut 1 = 1; keep 2 = 2; undo 0 = 2; frost 1 = 1; slack 1 = 0",
                "haul 0 1 = 1; on 2 = 2; count 3 = 0; count 5 = 1; count 6 = 2; undo 1 = 1; count 3 = 0",
                "count 5 = 1; count 6 = 0; count 7 = 0");
            run("h0r904r900a0000", "frosts 40; keep 0 = 40; undo 0 = 40; slack 0 = 4; frosts 37; cut 0 = 1",
                "haul 1 9 = 1; count 6 = 3; on 0 = 40; count 2 = 40; count 5 = 0; count 6 = 0; count 7 = 4; count 3 = 0",
                "undo 39 = 1; count 3 = 1; count 7 = 4; undo 1 = 38; count 5 = 0; count 3 = 1; haul 1 1 = 0; on 0 = 40",
                "keep 1 = 40; on 1 = 40; count 7 = 4; haul 0 1 = FULL");
            says("ROWS and TEXTS are no part of it");
            run("h0r909r100a0000", "fill 0 4 5; keep 0 = 0; lay 0 0 9 = 1 told 4; tear 0 = 1; text 3 7 = 7",
                "rope 0 1 = 1 told 9; on 0 = 0; at 0 0 = NOTHING; count 11 = 2; asked = 9");
        }
    }

    /** Promises 23 to 30: what would be, what is to be done; aside. */
    private static final class Aside {
        static void all() {
            passes();
            moves();
            parts();
            lawful();
            least();
            leastInOrder();
            fall();
            idle();
            share();
        }

        private static void passes() {
            says("What a ROPE would PASS of a strain of n (0 .. 99). BAD");
            run(SIX, "passes 1 0 = 0; passes 1 99 = 99; passes 1 100 = BAD; passes 1 -1 = BAD; passes 1 MOST = BAD",
                "passes 0 -1 = BAD; passes 0 0 = 0; passes 0 99 = 49; passes 0 100 = BAD; passes 3 -1 = BAD",
                "passes 3 100 = BAD; passes 1 LEAST = BAD; passes 6 0 = BAD; passes -1 0 = BAD; passes 5 99 = 0",
                "passes MOST 1 = BAD");
            run("h1p505r100a0000", "passes 0 9 = 9; cut 0 = 1; passes 0 9 = 9; slack 1 = 0; passes 1 9 = 4");
        }

        private static void moves() {
            says("ROPES (bits) to which a strain would come by a HAUL by n (1 .. 9) at a ROPE. BAD");
            run("h0p910p900a0000", "moves 0 0 = BAD; moves 0 1 = 3 told NONE; moves 0 9 = 1 told 0",
                "moves 0 10 = BAD; moves 2 1 = BAD; moves -1 1 = BAD; moves 0 MOST = BAD; moves 0 LEAST = BAD",
                "count 2 = 0");
            says("which PARTS of these by asked() (NONE: none)");
            run("h0p910p500a0000", "moves 0 4 = 3 told NONE; moves 0 5 = 3 told 1; moves 1 5 = 2 told 1",
                "moves 0 9 = 1 told 0");
            run("h1p910r500a0000", "moves 0 4 = 3 told NONE; moves 0 5 = 3 told 1; moves 0 8 = 1 told 0");
            says("STATE: it has PARTED, or is LET GO");
            run("h0p910p900a0000", "slack 1 = 0; moves 1 1 = STATE; moves 0 1 = 1; belay 1 = 0; moves 1 1 = 3",
                "cut 1 = 1; moves 1 1 = STATE; moves 0 1 = 1 told NONE; splice 1 = 0; moves 1 1 = 3");
            run("h0r100r900r900a0000", "cut 1 = 1; moves 0 1 = 1 told NONE; moves 0 2 = 1 told 0",
                "moves 2 9 = 5 told 0");
        }

        private static void parts() {
            says("The least n (1 .. 20) by which a HAUL at a ROPE would make some ROPE PART; which by asked()");
            run("h0r909r900t910a0000", "parts 0 = 1 told 0; parts 1 = 2 told 0; slack 0 = 9; parts 1 = 10 told 1",
                "parts 2 = 10 told 2");
            run("h1r909r900t920a0000", "parts 0 = 1 told 0; parts 1 = 1 told 0; slack 0 = 9; parts 1 = 9 told 1",
                "parts 2 = 10 told 2");
            run("h0p910p910r900a0000", "parts 0 = 9 told 0; parts 1 = 9 told 1; haul 1 8 = 0; parts 0 = 1 told 1",
                "parts 1 = 1 told 1");
            run("h0n910r301r900a0000", "parts 0 = 4 told 1; parts 1 = 3 told 1; parts 2 = 8 told 1; parts 3 = BAD",
                "parts -1 = BAD");
            says("parts: BAD; STATE: it has PARTED, or is LET GO");
            run("h0r909r900a0000", "slack 0 = 9; parts 0 = STATE; cut 1 = 1; parts 1 = STATE; belay 0 = 0",
                "parts 0 = 10 told 0; splice 1 = 0; parts 1 = 10 told 1; parts 2 = BAD; parts MOST = BAD",
                "parts LEAST = BAD; count 2 = 4");
        }

        private static void lawful() {
            says("ACTS (bits) that are LAWFUL. STATE: no ROPES");
            run("", "lawful = STATE");
            run("h0r900a0100", "lawful = 0; haul 0 1 = 0; lawful = 1");
            run("h0r901a0100a0100a0100a0100", "lawful = 15; slack 0 = 1; lawful = 0");
        }

        private static void least() {
            says("The fewest HAULS by 1 and ROPES LET GO (in any order, 0 .. 4) by which an ACT is LAWFUL");
            run("h0r901a0100", "fill 2 7 7 7; least 0 2 = 0; holds 2");
            run("h0s901s901s901s901s901s901a0001a0003a0007a0015", "least 0 0 = 1; holds 0 6; least 1 0 = 2",
                "holds 0 6 7; least 2 0 = 3; holds 0 6 7 8; least 3 0 = 4; holds 0 6 7 8 9");
            run("h0s901s901s901s901s901s901a0031", "fill 0 5 6; least 0 0 = NONE; holds 0 5 6; least 0 1 = NONE",
                "at 1 0 = NOTHING");
            run("h0s900s900s900s900s900s900a1500a3100", "least 0 0 = 4; holds 0 0 1 2 3; least 1 0 = NONE",
                "holds 0 0 1 2 3");
            says("a HAUL at ROPE i: i, LET GO: 6 and i");
            run("h0s900s900s900s900s900s900a3200", "least 0 0 = 1; holds 0 5");
            run("h0s900s900s900s900s900s901a0032", "least 0 0 = 1; holds 0 11");
            says("no ROPE PARTING");
            run("h0r100a0100", "least 0 0 = 1; holds 0 0");
            run("h1r100a0100", "least 0 0 = NONE; frost 0 = 0; least 0 0 = 1");
            run("h1r200a0100", "least 0 0 = 1");
            run("h1t100a0100", "least 0 0 = 1; frost 0 = 0; least 0 0 = 1");
            run("h0p100a0100", "least 0 0 = NONE");
            run("h0p910r111a0100", "least 0 0 = 2; holds 0 7 0");
            run("h0p910r101a0102", "least 0 0 = 2; holds 0 7 0");
            run("h0r101a0001", "least 0 0 = 1; holds 0 6");
            says("by which an ACT is LAWFUL: of ROPES made off, not PARTED");
            run("h0r901r900a0200a0100", "slack 1 = 0; least 0 0 = NONE; belay 1 = 0; least 0 0 = 1; cut 1 = 1",
                "least 0 0 = NONE; splice 1 = 0; least 0 0 = 1; least 1 0 = 0; cut 0 = 1; least 1 0 = NONE");
            says("least: NONE: by no four. BAD");
            run("h0r900a0100a0001a0101", "least 3 0 = BAD; least -1 0 = BAD; least 2 6 = BAD; least 2 -1 = BAD",
                "least 2 5 = NONE; least 1 0 = 0; least MOST 0 = BAD; least LEAST 0 = BAD; least 0 MOST = BAD",
                "least 0 5 = 1; count 2 = 0");
        }

        private static void leastInOrder() {
            says("the first such row comes to a ROW (anew; lesser ones ahead)");
            run("h0p910p900a0300", "least 0 0 = 1; holds 0 0");
            run("h0s910s900a0300", "least 0 0 = 2; holds 0 0 1");
            run("h0p911p900a0201", "least 0 0 = 2; holds 0 0 6");
            run("h0p211p900a0201", "least 0 0 = 2; holds 0 6 1");
            run("h0p211p910a0201", "least 0 0 = 2; holds 0 1 6");
            run("h0n911p900a0201", "least 0 0 = 2; holds 0 1 6");
            run("h0r910r900a0200", "least 0 0 = 1; holds 0 1");
            run("h0s901s901s901a0006", "least 0 0 = 2; holds 0 7 8");
            run("h1n910s900a0200", "least 0 0 = 1; holds 0 0; frost 0 = 0; least 0 0 = 1; holds 0 1");
            run("h0s900s900s901s901a0312", "least 0 0 = 4; holds 0 0 1 8 9");
            run("h0r900s910a0201", "fill 4 1 1 1; least 0 4 = 1; holds 4 1; least 0 5 = 1; holds 5 1",
                "count 10 = 2");
        }

        private static void fall() {
            says("The fewest ROPES that, CUT together, leave no ACT LAWFUL; which by asked()");
            run("h0r900a0100", "fall = 0 told 0");
            run("h0r901a0100", "fall = 1 told 1; slack 0 = 1; fall = 0 told 0");
            run("h0r901r901r901r901r901r901a3200", "fall = 1 told 32");
            run("h0r901r901r901r901r901r901a0100a0200a0400a0800", "fall = 4 told 15; cut 3 = 1; fall = 3 told 7");
            run("h0r901r901r901r901r901r901a0400a0800a1600a3200", "fall = 4 told 60");
            says("(bits; of as few the least number)");
            run("h0r901r901r901a0600", "fall = 1 told 2");
            run("h0r901r901r901r901a0300a1200", "fall = 2 told 5");
            run("h0r901r901r901a0500a0400", "fall = 1 told 4");
            says("The fewest ROPES, though more of lesser numbers do it, too");
            run("h0r901r901r901a0500a0600", "fall = 1 told 4");
            run("h0r901r901r901r901r901r901a3300a3400a3600", "fall = 1 told 32; cut 5 = 1; fall = 0 told 0");
            run("h0r901r901r901a0300a0500a0600", "fall = 2 told 3");
            says("NONE: it can't be");
            run("h0r901a0000", "rope 0 1 = 1 told 9; fall = NONE; asked = 9");
            run("h0r901a0100a0001", "rope 0 1 = 1 told 9; fall = NONE; slack 0 = 1; fall = NONE; asked = 9");
            run("h0r901r901a0100a0002", "fall = 1 told 1; slack 1 = 1; fall = NONE");
            run("h0r901r901a0100a0201", "fall = 2 told 3");
            says("(PARTED ones not)");
            run("h0r901r901a0100a0200", "fall = 2 told 3; cut 0 = 1; fall = 1 told 2; cut 1 = 2; fall = 0 told 0",
                "splice 0 = 1; fall = 0 told 0; haul 0 1 = 0; fall = 1 told 1");
            says("fall: STATE: no ROPES");
            run("", "fall = STATE; asked = 0");
        }

        private static void idle() {
            says("ROPES (bits; PARTED ones not) each of which, CUT alone, would leave the same ACTS LAWFUL");
            run("h0r901r901r901r901r901r901a0000", "idle = 63; cut 5 = 1; idle = 31; slack 0 = 1; idle = 31",
                "cut 0 = 2; idle = 30");
            run("h0r901r901r901r901r901r901a6300", "idle = 0; slack 2 = 1; idle = 63; cut 2 = 1; idle = 59");
            run("h0r901a0100a0001", "idle = 0; slack 0 = 1; idle = 1; cut 0 = 1; idle = 0");
            run("h0r901r900r901a0100a0004", "idle = 2; haul 1 1 = 0; idle = 2; cut 1 = 1; idle = 0");
            run("h0r901r900r901a0104", "idle = 3; slack 0 = 1; idle = 7");
            says("idle: STATE: no ROPES");
            run("", "idle = STATE");
        }

        private static void share() {
            says("A strain of v (0 .. 60) shared by ROPES: BAD; STATE: no ROPES");
            run("h0r905r504a0000", "share -1 0 = BAD; share 61 0 = BAD; share MOST 0 = BAD; share LEAST 0 = BAD",
                "share 60 6 = BAD; share 60 -1 = BAD; share 60 5 = 55; holds 5 4 1; share 0 5 = 0; holds 5 0 0",
                "share 1 0 = 0; holds 0 1 0");
            run("", "share 0 0 = STATE; share 60 5 = STATE; share 61 0 = BAD; share 0 6 = BAD; count 10 = 0");
            says("1 by 1, each to that which HOLDS most more (of like ones the first), none beyond");
            run("h0r905r504a0000", "share 3 0 = 0; holds 0 3 0; share 4 0 = 0; holds 0 4 0; share 5 0 = 0",
                "holds 0 4 1; share 6 0 = 1; holds 0 4 1");
            run("h0r504r905a0000", "share 3 0 = 0; holds 0 0 3; share 4 0 = 0; holds 0 1 3; share 5 0 = 0",
                "holds 0 1 4");
            run("h0r500r500r500a0000", "share 1 0 = 0; holds 0 1 0 0; share 2 0 = 0; holds 0 1 1 0; share 4 0 = 0",
                "holds 0 2 1 1; share 15 0 = 0; holds 0 5 5 5; share 16 0 = 1; holds 0 5 5 5; share 14 0 = 0",
                "holds 0 5 5 4");
            run("h0r900r900r900r900r900r900a0000", "share 54 0 = 0; holds 0 9 9 9 9 9 9; share 55 0 = 1",
                "share 60 0 = 6; share 53 0 = 0; holds 0 9 9 9 9 9 8");
            run("h0p500p505p504a0000", "share 5 0 = 1; holds 0 4 0 0; share 4 0 = 0; holds 0 4 0 0");
            says("ROPES that are made off, have not PARTED");
            run("h0r900r900r900a0000", "slack 0 = 0; cut 1 = 1; share 10 0 = 1; holds 0 0 0 9; belay 0 = 0",
                "share 10 0 = 0; holds 0 5 0 5; splice 1 = 0; share 10 0 = 0; holds 0 4 3 3");
            run("h0r909r900a0000", "cut 1 = 1; share 2 0 = 2; holds 0 0 0; slack 0 = 9; share 60 0 = 60",
                "holds 0 0 0");
            says("what each ROPE has of it comes to a ROW (anew)");
            run("h0r900a0000", "row 0 40 = 40; share 9 0 = 0; holds 0 9; tear 0 = 1; share 9 0 = 0; holds 0 9",
                "count 10 = 1");
        }
    }

    /** Promises 31 to 33: by what came on. */
    private static final class Pairs {
        static void all() {
            sizes();
            numbers();
            ropesAndKinds();
            test();
        }

        private static void each(String court, String ahead, String who, String kinds, String test) {
            run(court, ahead, "who 0 = " + who, "kinds 0 = " + kinds, "test 0 = " + test);
        }

        private static void eachRefused(String ahead, String finding) {
            each(SIX, ahead, finding, finding, finding);
        }

        private static void sizes() {
            says("a ROW of pairs, 0 to 8: NOTHING; SIZE");
            eachRefused("count 10 = 0", "NOTHING");
            for (int size = 0; size <= 40; size++) {
                String ahead = "row 0 " + size + " = " + size;
                if (size % 2 == 0 && size <= 16) {
                    each(SIX, ahead, "63", "63", "3 told 2");
                } else {
                    eachRefused(ahead, "SIZE");
                }
            }
            says("SIZE; UNLIKE: in this order");
            eachRefused("fill 0 100", "SIZE");
            eachRefused("fill 0 -1 100 0", "SIZE");
            eachRefused("row 0 18 = 18; lay 0 17 100 = 1", "SIZE");
            eachRefused("row 0 16 = 16; lay 0 15 100 = 1", "UNLIKE");
        }

        private static void numbers() {
            says("a strain 0 .. 99, what it PASSED 0 .. 99: UNLIKE");
            for (int place : new int[] {0, 1, 2, 3, 14, 15}) {
                for (String number : List.of("-1", "100", "MOST", "LEAST")) {
                    eachRefused("row 0 16 = 16; lay 0 " + place + " " + number + " = 1", "UNLIKE");
                }
            }
            each(SIX, "fill 0 99 99", "2", "4", "0 told 1");
            each(SIX, "fill 0 99 98", "4", "8", "0 told 1");
            each(SIX, "fill 0 99 49", "17", "33", "2 told 1");
            each(SIX, "fill 0 99 0", "40", "18", "0 told 2");
            each(SIX, "fill 0 0 99", "0", "0", "NONE");
        }

        private static void ropesAndKinds() {
            says("behind BAD");
            run(SIX, "who 6 = BAD; who -1 = BAD; kinds 6 = BAD; kinds -1 = BAD; test 6 = BAD; test -1 = BAD",
                "who 5 = NOTHING");
            says("Which ROPES (bits) it can be by these");
            run("h0r900r900w900s900r900p900a0000", "fill 0 2 1; who 0 = 19; fill 0 2 0; who 0 = 12; fill 0 2 2",
                "who 0 = 32; fill 0 2 1 3 1; who 0 = 19; fill 0 2 1 3 2; who 0 = 0; kinds 0 = 8; row 0 0 = 0",
                "who 0 = 63");
            run("h0w900a0000", "fill 0 5 2; who 0 = 1; kinds 0 = 33; fill 0 5 0; who 0 = 0; kinds 0 = 18",
                "fill 0 5 1; kinds 0 = 0");
            run("h0r900a0000", "fill 0 2 1; cut 0 = 1; who 0 = 1");
            says("Of which of all six KINDS (bits) it can be by these");
            run("", "fill 0 0 0; kinds 0 = 63; fill 0 1 0; kinds 0 = 59; fill 0 1 1; kinds 0 = 4; fill 0 2 1",
                "kinds 0 = 9; fill 0 2 0; kinds 0 = 50; fill 0 3 1; kinds 0 = 33; fill 0 3 2; kinds 0 = 8",
                "fill 0 4 1; kinds 0 = 32");
            run("", "fill 0 2 1 3 1; kinds 0 = 1; fill 0 2 0 3 1; kinds 0 = 32; fill 0 2 0 3 0; kinds 0 = 18",
                "fill 0 0 0 0 0 0 0 0 0 0 0 0 0 0 0 2 2; kinds 0 = 4; fill 0 0 0 0 0 0 0 0 0 0 0 0 0 0 0 2 3",
                "kinds 0 = 0");
        }

        private static void test() {
            says("The strain (0 .. 20; the first) by which these KINDS are told apart best; that part by asked()");
            run("", "row 0 0 = 0; test 0 = 3 told 2; fill 0 1 0; test 0 = 3 told 2; fill 0 2 1; test 0 = 3 told 1",
                "fill 0 2 0; test 0 = 3 told 2; fill 0 3 1; test 0 = 2 told 1; fill 0 3 0; test 0 = 0 told 2",
                "fill 0 9 9; test 0 = 0 told 1; fill 0 4 2; test 0 = 0 told 1");
            says("test: NONE: there is no KIND");
            run("", "fill 0 4 1; test 0 = 0 told 1; fill 0 4 4; test 0 = 0 told 1; fill 0 4 9; test 0 = NONE",
                "asked = 0");
        }
    }

    /** Promises 34 to 37: by turns, chances, lots. */
    private static final class Chances {
        static void all() {
            duel();
            odds();
            mid();
            lotsRefused();
            lotsByNumber();
        }

        private static void duel() {
            says("By turns two HAUL by 1, n (0 .. 3) times each, or not. BAD; STATE: no ROPES");
            run("h0p910r100a0000", "duel -1 = BAD; duel 4 = BAD; duel MOST = BAD; duel LEAST = BAD",
                "duel 0 = 1 told 0; duel 1 = 1 told 0; duel 2 = 1 told 1; duel 3 = 1 told 1");
            run("", "duel 0 = STATE; duel 3 = STATE; duel 4 = BAD; duel -1 = BAD");
            run("h0p910r200a0000", "duel 2 = 1 told 0; duel 3 = 1 told 1");
            run("h0p100r100a0000", "duel 3 = 1 told 0");
            says("the first one at ROPES of even numbers, the other one at those of odd numbers");
            run("h0s101p100a0000", "duel 3 = 1 told 0; haul 0 1 = 1; duel 0 = 1 told -1; duel 1 = 1 told -1");
            run("h0r900p900r900s100a0000", "duel 3 = 1 told 0");
            run("h0r100p900a0000", "duel 1 = 1 told 0; duel 2 = 1 told -1; duel 3 = 1 told -1");
            run("h0r900p930r900p920p910r100a0000", "duel 3 = 1 told 0");
            run("h0r900r900r900r900p950r111a0000", "duel 1 = 1 told 1; slack 4 = 0; duel 1 = 1 told 0");
            says("By turns, the first one ahead");
            run("h0p311p321s101a0000", "duel 1 = 1 told -1; duel 0 = 1 told 0");
            run("h0p100p100a0000", "duel 1 = 1 told 0; duel 3 = 1 told 0");
            run("h0p910r111r121p920a0000", "duel 1 = 1 told 0; slack 3 = 0; duel 1 = 1 told 1; belay 3 = 0",
                "slack 0 = 0; duel 1 = 1 told -1");
            run("h0p910r111a0000", "duel 1 = 1 told 1; slack 1 = 1; belay 1 = 0; duel 1 = 1 told 0",
                "duel 2 = 1 told 1");
            says("the first one wanting that to be much, the other one little: each may do without");
            run("h0p111s100a0000", "duel 1 = 1 told 0; duel 3 = 1 told 0");
            run("h0s100p111a0000", "duel 1 = 1 told 0; duel 3 = 1 told 0");
            says("(made off, not PARTED)");
            run("h0p910r111a0000", "duel 1 = 1 told 1; slack 0 = 0; duel 3 = 1 told 0; belay 0 = 0",
                "duel 1 = 1 told 1; cut 0 = 1; duel 3 = 1 told -1; splice 0 = 0; slack 1 = 1; duel 3 = 1 told 0");
            says("how many more ROPES of odd numbers have PARTED then than of even numbers");
            run("h0r900r900r900r900r900r900a0000", "cut 1 = 1; cut 3 = 2; cut 5 = 3; duel 0 = 1 told 3; cut 0 = 4",
                "duel 3 = 1 told 2; cut 2 = 5; cut 4 = 6; duel 3 = 1 told 0; splice 1 = 5; splice 3 = 4",
                "splice 5 = 3; duel 0 = 1 told -3");
        }

        private static void odds() {
            says("each ROPE that has not PARTED does so by p (0 .. 12) of 12: BAD");
            run("h0r901r900a0100a0001", "odds 0 -1 = BAD; odds 0 13 = BAD; odds 0 MOST = BAD; odds 0 LEAST = BAD",
                "odds 2 0 = BAD; odds -1 0 = BAD; odds 0 0 = 1 told 1/1; odds 0 12 = 1 told 0/1",
                "odds 1 0 = 1 told 0/1; odds 1 12 = 1 told 1/1; odds 0 1 = 1 told 11/12; odds 0 11 = 1 told 1/12",
                "odds 1 11 = 1 told 11/12; odds MOST 0 = BAD");
            says("told by upper(), lower(), in lowest terms, the lower number above 0 (0 by 1)");
            run("h0r901r901a0300a0201", "odds 0 6 = 1 told 1/4; odds 0 4 = 1 told 4/9; odds 0 12 = 1 told 0/1",
                "odds 1 6 = 1 told 1/4; odds 1 3 = 1 told 3/16; odds 0 5 = 1 told 49/144; odds 1 12 = 1 told 0/1",
                "odds 0 0 = 1 told 1/1");
            run("h0r901r901r901r901r901r901a6300a3100", "odds 0 11 = 1 told 1/2985984",
                "odds 0 1 = 1 told 1771561/2985984; odds 1 11 = 1 told 1/248832; odds 0 6 = 1 told 1/64",
                "odds 0 12 = 1 told 0/1");
            says("each ROPE that has not PARTED");
            run("h0r901r901a0300a0001", "cut 1 = 1; odds 0 3 = 1 told 0/1; odds 1 3 = 1 told 1/4; cut 0 = 2",
                "odds 1 3 = 1 told 1/1; splice 0 = 1; odds 1 3 = 1 told 1/1; slack 0 = 0; odds 1 3 = 1 told 1/1",
                "odds 0 0 = 1 told 0/1");
        }

        private static void mid() {
            says("The mean of how many ACTS are LAWFUL then. BAD; STATE: no ROPES");
            run("h0r901a0100a0001a0000a0100", "mid -1 = BAD; mid 13 = BAD; mid MOST = BAD; mid LEAST = BAD",
                "mid 0 = 1 told 3/1; mid 12 = 1 told 2/1; mid 6 = 1 told 5/2; mid 1 = 1 told 35/12",
                "mid 11 = 1 told 25/12; count 2 = 0");
            run("", "mid 0 = STATE; mid 12 = STATE; mid 13 = BAD; mid -1 = BAD; upper = 0; lower = 1");
            run("h0r900a0100", "mid 0 = 1 told 0/1; mid 5 = 1 told 0/1; haul 0 1 = 0; mid 5 = 1 told 7/12",
                "cut 0 = 1; mid 5 = 1 told 0/1");
            run("h0r901r901a0000a0000a0000a0000", "mid 7 = 1 told 4/1");
        }

        private static void lotsRefused() {
            says("n (1 .. 20) DEEDS truly by LOTS of a seed (1 .. 2147483646). BAD; STATE: no ROPES; FULL");
            run("h0r900a0000", "lots 0 1 = BAD; lots -1 1 = BAD; lots 21 1 = BAD; lots 1 0 = BAD; lots 1 -1 = BAD",
                "lots 1 MOST = BAD; lots 1 LEAST = BAD; lots MOST 1 = BAD; lots LEAST 1 = BAD; count 2 = 0",
                "lots 1 1 = 1");
            run("", "lots 1 1 = STATE; lots 20 2147483646 = STATE; lots 21 1 = BAD; lots 1 0 = BAD",
                "lots 1 MOST = BAD");
            run("h0r900a0000", "lots 20 2147483646 = 1; count 2 = 20; lots 1 2147483646 = 1; count 2 = 21",
                "undo 20 = 1; lots 20 1 = 1; count 2 = 40; undo 21 = 19; count 2 = 21; lots 20 1 = FULL",
                "lots 19 1 = 1; lots 1 1 = FULL");
            says("FULL: with n more there would be more than 40 DEEDS");
            run("h0r900a0000", "frosts 20; lots 20 5 = 1; count 2 = 40; lots 1 5 = FULL; undo 39 = 1",
                "lots 2 5 = FULL; lots 1 5 = 1");
        }

        /** The seed whose first number is the one told. */
        private static int seedOf(long number) {
            for (long wraps = 0; wraps < 48271; wraps++) {
                if ((number + wraps * 2147483647L) % 48271 == 0) {
                    return (int) ((number + wraps * 2147483647L) / 48271);
                }
            }
            return 0;
        }

        private static String lot(int rope, int what, int more) {
            // of six ropes: 192 is a multiple of 6, so that it by 8 and by 64 stays free
            for (int number = 64 * more + 8 * what; number < 1 << 20; number += 256) {
                for (int low = 0; low < 8; low++) {
                    if ((number + low) % 6 == rope && number + low > 0) {
                        return "lots 1 " + seedOf(number + low);
                    }
                }
            }
            return "";
        }

        private static void lotsByNumber() {
            String six = "h0p950s900p900p900p900p901a0100a0200a0001a3200";
            says("0 to 4 a HAUL by 1 more than it by 64, cut, modulo 4");
            for (int what = 0; what <= 4; what++) {
                for (int more = 0; more <= 3; more++) {
                    run(six, lot(0, what, more) + " = 2; rope 0 3 = 1 told " + (more + 1),
                        "rope 5 3 = 1 told " + (more + 2), "count 7 = " + (2 * more + 3),
                        "rope 1 3 = 1 told 0; count 2 = 1");
                }
            }
            says("ROPE it modulo how many there are");
            run(six, lot(1, 0, 2) + " = 3; rope 1 3 = 1 told 3; count 7 = 4");
            run(six, lot(5, 4, 3) + " = 2; rope 5 3 = 1 told 5; rope 0 3 = 1 told 4; count 7 = 9");
            run("h1p950a0100", "lots 1 1 = 1; count 7 = 4; lots 1 1 = 1; count 7 = 8; lots 1 1 = 0; count 6 = 1",
                "lots 1 1 = 0; count 2 = 4");
            says("(if it can be); each a DEED, also where nothing becomes other by it");
            run(six, "slack 0 = 0; cut 1 = 1", lot(0, 3, 3) + " = 2; count 7 = 1; count 2 = 3",
                lot(1, 0, 0) + " = 2; count 2 = 4", "count 6 = 2; undo 2 = 2; count 2 = 2");
            says("5 it is LET GO, or MADE OFF (if it has not PARTED)");
            run(six, lot(5, 5, 0) + " = 1; count 5 = 32; count 7 = 0",
                lot(5, 5, 3) + " = 1; count 5 = 0; count 7 = 0; count 2 = 2",
                "cut 5 = 1", lot(5, 5, 1) + " = 1; count 5 = 0; count 2 = 4", "splice 5 = 0; count 5 = 0");
            says("6 it is SPLICED (if it has)");
            run(six, lot(4, 6, 1) + " = 2; count 6 = 0; count 2 = 1; slack 4 = 0; cut 4 = 1",
                lot(4, 6, 2) + " = 2; count 6 = 0; count 5 = 0");
            says("7 FROST comes, or goes");
            run(six, lot(3, 7, 0) + " = 2; count 3 = 1", lot(0, 1, 0) + " = 2; rope 0 3 = 1 told 2",
                lot(2, 7, 2) + " = 2; count 3 = 0; count 2 = 3");
            says("a number comes from the one ahead by 48271 times it modulo 2147483647");
            run("h0n920r930s904a0100a0004", "lots 2 1 = 1; rope 1 3 = 1 told 3; rope 0 3 = 1 told 4",
                "rope 2 3 = 1 told 7; count 2 = 2");
            run("h0n920r930s904a0100a0004", "lots 1 1 = 0; lots 1 48271 = 1; rope 1 3 = 1 told 3",
                "rope 0 3 = 1 told 4; rope 2 3 = 1 told 7");
            lotsOfTwentyAreTwentyOfOne();
        }

        private static void lotsOfTwentyAreTwentyOfOne() {
            for (int seed : new int[] {1, 2, 3, 48271, 16807, 2147483646, 2147483645, 1000000007}) {
                List<String> one = new ArrayList<>();
                long number = seed;
                for (int d = 0; d < 20; d++) {
                    one.add("lots 1 " + number);
                    number = number * 48271 % 2147483647;
                }
                Run together = new Run();
                together.write(0, SIX);
                together.call("court", 0);
                Run alone = new Run();
                alone.write(0, SIX);
                alone.call("court", 0);
                together.latest = "lots of seed " + seed;
                together.call("lots", 20, seed);
                for (String lots : one) {
                    alone.call("lots", 1, Integer.parseInt(lots.split(" ")[2]));
                }
                together.due("what came of it", together.ask("digest"), alone.ask("digest"));
                together.due("all of it", together.story().equals(alone.story()) ? 1 : 0, 1);
                runs++;
            }
        }
    }

    /** Promises 38 to 44: what is told. */
    private static final class Told {
        static void all() {
            asked();
            askedStays();
            upperAndLower();
            counts();
            finding();
            digest();
        }

        private static void asked() {
            says("What the latest lay(), at(), mean(), rope(), moves(), parts(), fall(), test(), duel() told");
            run("", "asked = 0");
            run("h0p915r904a0300", "asked = 0; row 0 1 = 1; lay 0 0 6 = 1 told 0; lay 0 0 8 = 1; asked = 6",
                "at 0 0 = 1; asked = 8; fill 1 3; mean 1 = 1; asked = 3; rope 0 3 = 1; asked = 5",
                "moves 0 9 = 1 told 0; moves 0 3 = 3; asked = NONE; moves 1 9 = 2; asked = 1; parts 1 = 6 told 1",
                "fall = 1; asked = 1; row 2 0 = 0; test 2 = 3; asked = 2; cut 1 = 1; cut 0 = 2; duel 0 = 1 told 0",
                "fall = 0; asked = 0; asked = 0");
            run("h0p915r904a0300", "parts 0 = 4 told 0; parts 1 = 6 told 1; duel 3 = 1 told 0; cut 1 = 1",
                "duel 0 = 1 told 1");
        }

        private static void askedStays() {
            says("that was not refused (nor NONE)");
            run("h0p915r904a0000", "rope 0 1 = 1 told 8; rope 2 0 = BAD; rope 0 6 = BAD; at 0 0 = NOTHING",
                "lay 0 0 1 = NOTHING; row 0 0 = 0; at 0 0 = BEYOND; lay 0 0 1 = BEYOND; mean 0 = NOUGHT",
                "mean 1 = NOTHING; mean 6 = BAD; asked = 8");
            run("h0p915r904a0000", "rope 0 1 = 1 told 8; moves 0 0 = BAD; parts 2 = BAD; slack 0 = 5",
                "moves 0 1 = STATE; parts 0 = STATE; fall = NONE; test 0 = NOTHING; duel 4 = BAD; fill 0 5 9",
                "asked = 0; rope 0 1 = 1; test 0 = NONE; asked = 8");
            says("of the calls that tell by asked() these alone");
            run("h0p915r904a0300", "rope 0 1 = 1 told 8; passes 0 9 = 9; lawful = 1; least 0 0 = 0; idle = 0",
                "share 3 0 = 0",
                "mark 0 2 = 0; count 7 = 9; fault 0 = NONE; odds 0 3 = 1 told 9/16; mid 0 = 1 told 1/1; lots 1 1 = 1",
                "asked = 8",
                "digest = " + digestBehindLots(), "finding = 0; findings 1 = 0; keep 0 = 1; on 0 = 1; undo 0 = 1",
                "asked = 8");
            run("h0p915r904a0300", "rope 0 1 = 1 told 8; haul 0 1 = 0; slack 0 = 6; belay 0 = 0; cut 0 = 1",
                "splice 0 = 0; frost 1 = 1; row 0 2 = 2; copy 0 0 0 1 1 = 1; who 0 = 3; kinds 0 = 63; tear 0 = 1",
                "text 1 3 = 3; put 1 0 1 = 1032; court 0 = 2; asked = 8");
        }

        /** 48271: at rope 1 a haul by 3, of which 1 goes on to rope 0; row 0 is what share() made of it. */
        private static long digestBehindLots() {
            long h = 17;
            int[] told = {2, 1, 1, 0, 3, 0, 0, 13, 0, 0, 1, 1, 0, 2, 8, 1, 6, 1, 0, 0, 9, 0, 7, 1, 0, 1, -1, -1, -1,
                2, 1, 2, -1, -1, -1, -1, -1, 15};
            for (int v : told) {
                h = 31 * h + v;
            }
            for (char sign : "h0p915r904a0300".toCharArray()) {
                h = 31 * h + sign;
            }
            return ((31 * h - 1) * 31 - 1) * 31 - 1;
        }

        private static void upperAndLower() {
            says("The upper number that was told last; 0 before. Its lower number; 1 before");
            run("", "upper = 0; lower = 1; mid 0 = STATE; odds 0 0 = BAD; upper = 0; lower = 1");
            run("h0r901a0100", "upper = 0; lower = 1; odds 0 3 = 1; upper = 3; lower = 4; odds 0 13 = BAD",
                "odds 1 0 = BAD; mid 13 = BAD; upper = 3; lower = 4; mid 2 = 1; upper = 5; lower = 6; cut 0 = 1",
                "upper = 5; court 0 = 1; lower = 6");
        }

        private static void counts() {
            says("0 ROPES .. 12 kept COURTS. BAD");
            run("h1s411t520n922w933p900r900a0000a0000a0000", "row 0 0 = 0; row 5 3 = 3; text 3 0 = 0; keep 0 = 0",
                "keep 2 = 0; slack 2 = 2; cut 3 = 1; count 0 = 6; count 1 = 3; count 2 = 2; count 3 = 1",
                "count 4 = 1; count 5 = 4; count 6 = 8; count 7 = 1; count 8 = 2; count 9 = 2; count 10 = 2",
                "count 11 = 2; count 12 = 2; count 13 = BAD; count -1 = BAD; count MOST = BAD; count LEAST = BAD");
            says("4 ROPES that are TAUT (bits), 5 LET GO (bits), 6 PARTED (bits), 7 all STRAINS");
            run("h0r909r909r909r909r909r909a0000", "count 4 = 63; count 5 = 0; count 6 = 0; count 7 = 54",
                "slack 5 = 9; slack 0 = 9; count 4 = 30; count 5 = 33; count 7 = 36; cut 1 = 1; cut 4 = 2",
                "count 4 = 12; count 6 = 18; count 7 = 18");
            says("8 STAYS (TARRED ones, too), 9 RUNNING ones (WIDOWS, too)");
            run("h0s100t100t100s100s100t100a0000", "count 8 = 6; count 9 = 0");
            run("h0n100w100w100n100n100w100a0000", "count 8 = 0; count 9 = 6; cut 0 = 1; count 9 = 6");
            run("h0r100p100a0000", "count 8 = 0; count 9 = 0");
            says("10 ROWS, 11 TEXTS that are there");
            run("", "row 0 0 = 0; row 1 0 = 0; row 2 0 = 0; row 3 0 = 0; row 4 0 = 0; count 10 = 5; row 5 0 = 0",
                "count 10 = 6; row 5 0 = 0; count 10 = 6; text 0 0 = 0; text 1 0 = 0; text 2 0 = 0; count 11 = 3",
                "text 3 0 = 0; count 11 = 4; text 3 9 = 9; count 11 = 4; tear 0 = 1; tear 5 = 1; count 10 = 4");
        }

        private static void finding() {
            says("The latest FINDING (0 before any)");
            run("", "finding = 0; row 6 0 = BAD; finding = 0; lawful = STATE; finding = 0; tear 0 = NOTHING",
                "finding = 1; row 0 1 = 1; finding = 1; at 0 1 = BEYOND; finding = 2; at 0 0 = 1; finding = 2",
                "row 6 0 = BAD; finding = 2");
            run("h0r900a0000", "mark 0 1 = UNLIKE; finding = 3; row 0 0 = 0; mean 0 = NOUGHT; finding = 4",
                "row 0 -1 = SIZE; finding = 5; haul 0 1 = 0; court 0 = 1; finding = 5; tear 5 = NOTHING",
                "finding = 1");
            says("How often a FINDING (1 .. 5) was answered. BAD");
            run("h0r900a0000", "findings 0 = BAD; findings 6 = BAD; findings -1 = BAD; findings MOST = BAD",
                "findings LEAST = BAD; findings 1 = 0; findings 5 = 0; tear 0 = NOTHING; tear 0 = NOTHING",
                "findings 1 = 2; mark 0 2 = UNLIKE; row 0 -1 = SIZE");
            run("h0r900a0000", "row 0 -1 = SIZE; text 0 -1 = SIZE; row 0 0 = 0; at 0 0 = BEYOND; mean 0 = NOUGHT",
                "mean 0 = NOUGHT; findings 1 = 0; findings 2 = 1; findings 3 = 0; findings 4 = 2; findings 5 = 2",
                "keep 0 = 0; on 0 = 0; findings 5 = 2; undo 0 = 0; court 0 = 1; findings 5 = 2; mean 0 = NOUGHT",
                "findings 4 = 3");
        }

        /** By the counts, ROPES, ACTS, kept COURTS, ROWS and TEXTS told, one behind another. */
        private static String digestOf(int[]... parts) {
            long h = 17;
            for (int[] part : parts) {
                for (int v : part) {
                    h = 31 * h + v;
                }
            }
            return "digest = " + h;
        }

        private static int[] told(int... numbers) {
            return numbers;
        }

        private static void digest() {
            int[] noCounts = new int[13];
            int[] noneKept = told(-1, -1, -1);
            int[] noRows = told(-1, -1, -1, -1, -1, -1);
            int[] noTexts = told(-1, -1, -1, -1);
            int[] emptyText = told(0, -1, -1, -1);
            says("of each ROW its size (-1: missing) and places, of each TEXT likewise");
            run("", digestOf(noCounts, noneKept, noRows, noTexts));
            run("", "row 0 0 = 0; text 3 0 = 0", digestOf(told(0, 0, 0, 0, 0, 0, 0, 0, 0, 0, 1, 1, 0), noneKept,
                told(0, -1, -1, -1, -1, -1), told(-1, -1, -1, 0)));
            run("", "fill 5 LEAST MOST; text 0 2 = 2; put 0 1 128 = 1032",
                digestOf(told(0, 0, 0, 0, 0, 0, 0, 0, 0, 0, 1, 1, 0), noneKept,
                    told(-1, -1, -1, -1, -1, 2, Integer.MIN_VALUE, Integer.MAX_VALUE), told(2, 32, -128, -1, -1, -1)));
            says("h = 17; then h = 31 h + v; asked() stays");
            run("h0r901a0100a0001", "text 0 0 = 0; row 0 1 = 1; lay 0 0 4 = 1; keep 2 = 0; frost 1 = 1; keep 0 = 1",
                "haul 0 1 = 0; slack 0 = 3; rope 0 1 = 1 told 9",
                digestOf(told(1, 2, 3, 1, 0, 1, 0, 0, 0, 0, 1, 1, 2), told(0, 9, NONE, 0, 0, 0), told(0, 1),
                    told(1, -1, 0), told(1, 4, -1, -1, -1, -1, -1), emptyText), "asked = 9");
            run("h0r901a0100a0001", "text 0 0 = 0",
                digestOf(told(1, 2, 0, 0, 1, 0, 0, 1, 0, 0, 0, 1, 0), told(0, 9, NONE, 1, 1, 0), told(1, 0),
                    noneKept, noRows, emptyText), "cut 0 = 1",
                digestOf(told(1, 2, 1, 0, 0, 0, 1, 0, 0, 0, 0, 1, 0), told(0, 9, NONE, 0, 1, 1), told(0, 1),
                    noneKept, noRows, emptyText));
        }
    }
}
