import java.math.BigInteger;
import java.util.ArrayList;
import java.util.Arrays;
import java.util.List;
import java.util.Random;
import java.util.TreeSet;

/**
 * Random runs of calls, each answer held against a second program written from the document's words
 * alone: as slow and as literal as can be, with lists, sets and copies, and without LawRigging's ways.
 */
public final class ModelTest {
    private static final int RUNS = 4000;
    private static final int CALLS = 500;
    private static int wrong = 0;

    public static void main(String[] args) {
        for (int run = 0; run < RUNS && wrong < 20; run++) {
            play(run);
        }
        System.out.println(wrong == 0 ? "ModelTest: all answers are as due" : "ModelTest: " + wrong + " wrong");
        if (wrong != 0) {
            System.exit(1);
        }
    }

    private static void play(int run) {
        Random random = new Random(7000L + run);
        Caller caller = new Caller(random);
        LawRigging real = new LawRigging();
        Model model = new Model();
        List<String> said = new ArrayList<>();
        // each step is one call and, at most, one digest, so that an object stays within its 512 calls
        int calls = 0;
        while (calls < CALLS) {
            int[] call = caller.next(model);
            long got = Calls.onReal(real, call);
            long want = Calls.onModel(model, call);
            calls++;
            said.add(Calls.name(call) + " = " + got);
            if (got != want) {
                report(run, said, want);
                return;
            }
            if (random.nextInt(12) == 0) {
                calls++;
                long realDigest = real.digest();
                said.add("digest() = " + realDigest);
                if (realDigest != model.digest()) {
                    report(run, said, model.digest());
                    return;
                }
            }
        }
    }

    private static void report(int run, List<String> said, long want) {
        wrong++;
        System.out.println("run " + run + ", due is " + want + " at the last of:");
        for (String line : said.subList(Math.max(0, said.size() - 120), said.size())) {
            System.out.println("  " + line);
        }
    }
}

/** Draws calls that are mostly sensible in the model's state. */
final class Caller {
    private static final String[] NAMES = Calls.NAMES;
    private final Random random;
    private final List<int[]> planned = new ArrayList<>();

    Caller(Random random) {
        this.random = random;
        planText();
    }

    int[] next(Model model) {
        if (!planned.isEmpty()) {
            return planned.remove(0);
        }
        int kind = random.nextInt(100);
        if (kind < 2) {
            planText();
            return planned.remove(0);
        }
        if (kind < 6) {
            planPairs();
            return planned.remove(0);
        }
        int[] call = draw(model);
        if (random.nextInt(15) == 0 && call.length > 1) {
            call[1 + random.nextInt(call.length - 1)] = oddNumber();
        }
        planTold(call);
        return call;
    }

    /** Behind a call that tells something aside, that is looked at too. */
    private void planTold(int[] call) {
        String name = NAMES[call[0]];
        if (List.of("lay", "at", "mean", "rope", "moves", "parts", "fall", "test", "duel").contains(name)) {
            plan("asked");
        }
        if (name.equals("odds") || name.equals("mid")) {
            plan("upper");
            plan("lower");
        }
        if (name.equals("least") || name.equals("share")) {
            for (int i = 0; i < 6; i++) {
                plan("at", call[2], i);
                plan("asked");
            }
        }
    }

    private void plan(String name, int... numbers) {
        int[] call = new int[numbers.length + 1];
        call[0] = Arrays.asList(NAMES).indexOf(name);
        System.arraycopy(numbers, 0, call, 1, numbers.length);
        planned.add(call);
    }

    private int oddNumber() {
        int[] odd = {-1, -2, 0, 1, 2, 3, 4, 5, 6, 7, 9, 10, 12, 13, 20, 21, 40, 41, 60, 61, 99, 100,
            Integer.MAX_VALUE, Integer.MIN_VALUE, 2147483646, -2147483647, 1 << 16};
        return odd[random.nextInt(odd.length)];
    }

    private void planText() {
        String court = randomCourt();
        int t = random.nextInt(4);
        int size = Math.min(60, court.length() + (random.nextInt(3) == 0 ? random.nextInt(4) : 0));
        plan("text", t, size);
        for (int i = 0; i < Math.min(court.length(), size); i++) {
            if (court.charAt(i) != ' ') {
                int above = random.nextInt(6) == 0 ? 256 * (random.nextInt(7) - 3) : 0;
                plan("put", t, i, court.charAt(i) + above);
            }
        }
        plan("fault", t);
        plan("court", t);
    }

    private String randomCourt() {
        StringBuilder text = new StringBuilder();
        blanks(text);
        text.append('h').append(random.nextInt(2));
        blanks(text);
        int ropes = random.nextInt(8) == 0 ? 1 + random.nextInt(3) : 2 + random.nextInt(5);
        for (int i = 0; i < ropes; i++) {
            int strength = 1 + random.nextInt(9);
            text.append("rspntw".charAt(random.nextInt(6))).append(strength).append(random.nextInt(6));
            text.append(random.nextInt(3) == 0 ? 0 : random.nextInt(strength + 1));
            blanks(text);
        }
        int acts = 1 + random.nextInt(4);
        for (int a = 0; a < acts; a++) {
            text.append('a');
            set(text, 64);
            set(text, random.nextInt(2) == 0 ? 1 : 64);
            blanks(text);
        }
        if (random.nextInt(4) == 0) {
            int place = random.nextInt(text.length());
            String signs = "0123456789rspntwah  \u00e9x";
            char sign = signs.charAt(random.nextInt(signs.length()));
            int how = random.nextInt(4);
            if (how == 0) {
                text.setLength(place);
            } else if (how == 1) {
                text.insert(place, sign);
            } else if (how == 2) {
                text.deleteCharAt(place);
            } else {
                text.setCharAt(place, sign);
            }
        }
        return text.toString();
    }

    private void blanks(StringBuilder text) {
        while (random.nextInt(6) == 0) {
            text.append(' ');
        }
    }

    private void set(StringBuilder text, int bound) {
        int set = random.nextInt(random.nextInt(25) == 0 ? 100 : bound);
        if (random.nextInt(3) != 0) {
            set &= random.nextInt(64);
        }
        text.append(set / 10).append(set % 10);
    }

    private void planPairs() {
        int r = random.nextInt(6);
        int pairs = random.nextInt(random.nextInt(5) == 0 ? 10 : 3);
        int size = 2 * pairs + (random.nextInt(12) == 0 ? 1 : 0);
        int kind = random.nextInt(6);
        plan("row", r, size);
        for (int p = 0; p < pairs; p++) {
            int strain = random.nextInt(random.nextInt(3) == 0 ? 102 : 6);
            int passed = Model.passed(kind, strain) + (random.nextInt(8) == 0 ? 1 : 0);
            plan("lay", r, 2 * p, strain);
            plan("lay", r, 2 * p + 1, passed);
        }
        plan("who", r);
        plan("kinds", r);
        plan("test", r);
        plan("asked");
    }

    private int[] draw(Model model) {
        int ropes = Math.max(1, model.ropes.size());
        int acts = Math.max(1, model.acts.size());
        int name = random.nextInt(NAMES.length);
        int i = random.nextInt(ropes + (random.nextInt(10) == 0 ? 1 : 0));
        int a = random.nextInt(acts);
        int r = random.nextInt(6);
        int place = random.nextInt(random.nextInt(4) == 0 ? 41 : 6);
        switch (NAMES[name]) {
            case "row":
                return new int[] {name, r, random.nextInt(random.nextInt(3) == 0 ? 41 : 9) - random.nextInt(2)};
            case "lay":
                return new int[] {name, r, place, random.nextInt(3) == 0 ? random.nextInt() : random.nextInt(100)};
            case "at":
                return new int[] {name, r, place};
            case "copy":
                return new int[] {name, r, random.nextInt(5), random.nextInt(3) == 0 ? r : random.nextInt(6),
                    random.nextInt(5), random.nextInt(6)};
            case "text":
                return new int[] {name, random.nextInt(4), random.nextInt(5) == 0 ? random.nextInt(61) : 2};
            case "put":
                return new int[] {name, random.nextInt(4), random.nextInt(60), random.nextInt(600) - 300};
            case "fault":
            case "court":
                return new int[] {Arrays.asList(NAMES).indexOf("fault"), random.nextInt(4)};
            case "rope":
                return new int[] {name, i, random.nextInt(6)};
            case "mark":
                return new int[] {name, i, 1 + random.nextInt(5)};
            case "haul":
                return new int[] {name, i, 1 + random.nextInt(random.nextInt(4) == 0 ? 9 : 3)};
            case "moves":
                return new int[] {name, i, 1 + random.nextInt(9)};
            case "passes":
                return new int[] {name, i, random.nextInt(100)};
            case "frost":
                return new int[] {name, random.nextInt(2)};
            case "undo":
                return new int[] {name, Math.max(0, model.deeds() - random.nextInt(random.nextInt(9) == 0 ? 50 : 4))};
            case "keep":
            case "on":
                return new int[] {name, random.nextInt(3)};
            case "least":
                return new int[] {name, a, r};
            case "share":
                return new int[] {name, random.nextInt(61), r};
            case "duel":
                return new int[] {name, random.nextInt(random.nextInt(4) == 0 ? 4 : 2)};
            case "odds":
                return new int[] {name, a, random.nextInt(13)};
            case "mid":
                return new int[] {name, random.nextInt(13)};
            case "lots":
                return new int[] {name, 1 + random.nextInt(random.nextInt(4) == 0 ? 20 : 3),
                    1 + random.nextInt(2147483646)};
            case "count":
                return new int[] {name, random.nextInt(13)};
            case "findings":
                return new int[] {name, 1 + random.nextInt(5)};
            default:
                int[] call = new int[1 + Calls.ARITY[name]];
                call[0] = name;
                for (int n = 1; n < call.length; n++) {
                    call[n] = List.of("slack", "belay", "cut", "splice", "parts").contains(NAMES[name]) ? i : r;
                }
                return call;
        }
    }
}

/** The calls by number, made on either of both. */
final class Calls {
    static final String[] NAMES = {"row", "lay", "at", "tear", "copy", "mean", "text", "put", "fault", "court",
        "rope", "mark", "haul", "slack", "belay", "cut", "splice", "frost", "undo", "keep", "on", "passes",
        "moves", "parts", "lawful", "least", "fall", "idle", "share", "who", "kinds", "test", "duel", "odds",
        "mid", "lots", "asked", "upper", "lower", "count", "finding", "findings"};
    static final int[] ARITY = {2, 3, 2, 1, 5, 1, 2, 3, 1, 1,
        2, 2, 2, 1, 1, 1, 1, 1, 1, 1, 1, 2,
        2, 1, 0, 2, 0, 0, 2, 1, 1, 1, 1, 2,
        1, 2, 0, 0, 0, 1, 0, 1};

    static String name(int[] call) {
        StringBuilder text = new StringBuilder(NAMES[call[0]]).append('(');
        for (int n = 1; n < call.length; n++) {
            text.append(n == 1 ? "" : ", ").append(call[n]);
        }
        return text.append(')').toString();
    }

    static long onReal(LawRigging x, int[] c) {
        switch (NAMES[c[0]]) {
            case "row": return x.row(c[1], c[2]);
            case "lay": return x.lay(c[1], c[2], c[3]);
            case "at": return x.at(c[1], c[2]);
            case "tear": return x.tear(c[1]);
            case "copy": return x.copy(c[1], c[2], c[3], c[4], c[5]);
            case "mean": return x.mean(c[1]);
            case "text": return x.text(c[1], c[2]);
            case "put": return x.put(c[1], c[2], c[3]);
            case "fault": return x.fault(c[1]);
            case "court": return x.court(c[1]);
            case "rope": return x.rope(c[1], c[2]);
            case "mark": return x.mark(c[1], c[2]);
            case "haul": return x.haul(c[1], c[2]);
            case "slack": return x.slack(c[1]);
            case "belay": return x.belay(c[1]);
            case "cut": return x.cut(c[1]);
            case "splice": return x.splice(c[1]);
            case "frost": return x.frost(c[1]);
            case "undo": return x.undo(c[1]);
            case "keep": return x.keep(c[1]);
            case "on": return x.on(c[1]);
            case "passes": return x.passes(c[1], c[2]);
            case "moves": return x.moves(c[1], c[2]);
            case "parts": return x.parts(c[1]);
            case "lawful": return x.lawful();
            case "least": return x.least(c[1], c[2]);
            case "fall": return x.fall();
            case "idle": return x.idle();
            case "share": return x.share(c[1], c[2]);
            case "who": return x.who(c[1]);
            case "kinds": return x.kinds(c[1]);
            case "test": return x.test(c[1]);
            case "duel": return x.duel(c[1]);
            case "odds": return x.odds(c[1], c[2]);
            case "mid": return x.mid(c[1]);
            case "lots": return x.lots(c[1], c[2]);
            case "asked": return x.asked();
            case "upper": return x.upper();
            case "lower": return x.lower();
            case "count": return x.count(c[1]);
            case "finding": return x.finding();
            default: return x.findings(c[1]);
        }
    }

    static long onModel(Model x, int[] c) {
        switch (NAMES[c[0]]) {
            case "row": return x.row(c[1], c[2]);
            case "lay": return x.lay(c[1], c[2], c[3]);
            case "at": return x.at(c[1], c[2]);
            case "tear": return x.tear(c[1]);
            case "copy": return x.copy(c[1], c[2], c[3], c[4], c[5]);
            case "mean": return x.mean(c[1]);
            case "text": return x.text(c[1], c[2]);
            case "put": return x.put(c[1], c[2], c[3]);
            case "fault": return x.fault(c[1]);
            case "court": return x.court(c[1]);
            case "rope": return x.rope(c[1], c[2]);
            case "mark": return x.mark(c[1], c[2]);
            case "haul": return x.haul(c[1], c[2]);
            case "slack": return x.slack(c[1]);
            case "belay": return x.belay(c[1]);
            case "cut": return x.cut(c[1]);
            case "splice": return x.splice(c[1]);
            case "frost": return x.frost(c[1]);
            case "undo": return x.undo(c[1]);
            case "keep": return x.keep(c[1]);
            case "on": return x.on(c[1]);
            case "passes": return x.passes(c[1], c[2]);
            case "moves": return x.moves(c[1], c[2]);
            case "parts": return x.parts(c[1]);
            case "lawful": return x.lawful();
            case "least": return x.least(c[1], c[2]);
            case "fall": return x.fall();
            case "idle": return x.idle();
            case "share": return x.share(c[1], c[2]);
            case "who": return x.who(c[1]);
            case "kinds": return x.kinds(c[1]);
            case "test": return x.test(c[1]);
            case "duel": return x.duel(c[1]);
            case "odds": return x.odds(c[1], c[2]);
            case "mid": return x.mid(c[1]);
            case "lots": return x.lots(c[1], c[2]);
            case "asked": return x.asked;
            case "upper": return x.upper.longValueExact();
            case "lower": return x.lower.longValueExact();
            case "count": return x.count(c[1]);
            case "finding": return x.finding;
            default: return x.findings(c[1]);
        }
    }
}

/** A ROPE as the text tells it; moves -9: none. */
final class RopeModel {
    char letter;
    int strength;
    int moves;
    int firstStrain;

    int kind() {
        return "rspntw".indexOf(letter);
    }

    int holds() {
        return letter == 'p' ? strength - 1 : strength;
    }
}

final class ActModel {
    final TreeSet<Integer> needs = new TreeSet<>();
    final TreeSet<Integer> forbids = new TreeSet<>();
}

/** How a COURT stands at a time. */
final class Standing {
    int[] strain = new int[6];
    boolean[] loose = new boolean[6];
    boolean[] parted = new boolean[6];
    boolean frost;
    int bits = 0;
    int fell = -9;

    Standing copy() {
        Standing other = new Standing();
        other.strain = strain.clone();
        other.loose = loose.clone();
        other.parted = parted.clone();
        other.frost = frost;
        return other;
    }
}

final class Model {
    final List<RopeModel> ropes = new ArrayList<>();
    final List<ActModel> acts = new ArrayList<>();
    private final List<Standing> story = new ArrayList<>();
    private final List<List<Standing>> kept = new ArrayList<>(Arrays.asList(null, null, null));
    private final int[][] rows = new int[6][];
    private final byte[][] texts = new byte[4][];
    private final int[] found = new int[6];
    int finding = 0;
    int asked = 0;
    BigInteger upper = BigInteger.ZERO;
    BigInteger lower = BigInteger.ONE;

    Model() {
        story.add(new Standing());
    }

    private int find(int which) {
        finding = which;
        found[which]++;
        return -3;
    }

    private int tell(int what) {
        asked = what;
        return 1;
    }

    private Standing now() {
        return story.get(story.size() - 1);
    }

    int deeds() {
        return story.size() - 1;
    }

    private static boolean in(int low, int value, int high) {
        return low <= value && value <= high;
    }

    int row(int r, int n) {
        if (!in(0, r, 5) || n > 40) return -1;
        if (n < 0) return find(5);
        rows[r] = new int[n];
        return n;
    }

    int lay(int r, int i, int v) {
        if (!in(0, r, 5)) return -1;
        if (rows[r] == null) return find(1);
        if (!in(0, i, rows[r].length - 1)) return find(2);
        int was = rows[r][i];
        rows[r][i] = v;
        return tell(was);
    }

    int at(int r, int i) {
        if (!in(0, r, 5)) return -1;
        if (rows[r] == null) return find(1);
        if (!in(0, i, rows[r].length - 1)) return find(2);
        return tell(rows[r][i]);
    }

    int tear(int r) {
        if (!in(0, r, 5)) return -1;
        if (rows[r] == null) return find(1);
        rows[r] = null;
        return 1;
    }

    int copy(int r, int i, int to, int j, int n) {
        if (!in(0, r, 5) || !in(0, to, 5)) return -1;
        if (n < 0) return find(5);
        if (rows[r] == null || rows[to] == null) return find(1);
        if (i < 0 || j < 0 || (long) i + n > rows[r].length || (long) j + n > rows[to].length) return find(2);
        int[] taken = Arrays.copyOfRange(rows[r], i, i + n);
        for (int k = 0; k < n; k++) rows[to][j + k] = taken[k];
        return 1;
    }

    int mean(int r) {
        if (!in(0, r, 5)) return -1;
        if (rows[r] == null) return find(1);
        if (rows[r].length == 0) return find(4);
        BigInteger sum = BigInteger.ZERO;
        for (int v : rows[r]) sum = sum.add(BigInteger.valueOf(v));
        return tell(sum.divide(BigInteger.valueOf(rows[r].length)).intValueExact());
    }

    int text(int t, int n) {
        if (!in(0, t, 3) || n > 60) return -1;
        if (n < 0) return find(5);
        texts[t] = new byte[n];
        Arrays.fill(texts[t], (byte) 32);
        return n;
    }

    int put(int t, int i, int v) {
        if (!in(0, t, 3)) return -1;
        if (texts[t] == null) return find(1);
        if (!in(0, i, texts[t].length - 1)) return find(2);
        int was = texts[t][i];
        texts[t][i] = (byte) v;
        return was + 1000;
    }

    int fault(int t) {
        if (!in(0, t, 3)) return -1;
        if (texts[t] == null) return find(1);
        return parse(texts[t], new ArrayList<>(), new ArrayList<>(), new Standing());
    }

    int court(int t) {
        if (!in(0, t, 3)) return -1;
        if (texts[t] == null) return find(1);
        List<RopeModel> newRopes = new ArrayList<>();
        List<ActModel> newActs = new ArrayList<>();
        Standing first = new Standing();
        if (parse(texts[t], newRopes, newActs, first) != -9) return -4;
        ropes.clear();
        ropes.addAll(newRopes);
        acts.clear();
        acts.addAll(newActs);
        for (int i = 0; i < ropes.size(); i++) first.strain[i] = ropes.get(i).firstStrain;
        story.clear();
        story.add(first);
        for (int k = 0; k < 3; k++) kept.set(k, null);
        return ropes.size();
    }

    /** By items: what each place of an item may hold is told by a pattern of its own. */
    private static int parse(byte[] text, List<RopeModel> ropes, List<ActModel> acts, Standing first) {
        int place = 0;
        boolean headed = false;
        while (true) {
            while (place < text.length && text[place] == ' ') place++;
            if (place == text.length) return acts.isEmpty() ? text.length : -9;
            char letter = (char) (text[place] & 255);
            String allowed = !headed ? "h" : (acts.isEmpty() && ropes.size() < 6 ? "rspntw" : "")
                + (!ropes.isEmpty() && acts.size() < 4 ? "a" : "");
            if (text[place] < 0 || allowed.indexOf(letter) < 0) return place;
            int figures = letter == 'h' ? 1 : letter == 'a' ? 4 : 3;
            int[] figure = new int[figures];
            for (int f = 0; f < figures; f++) {
                int here = place + 1 + f;
                if (here >= text.length) return text.length;
                int value = text[here] - 48;
                int low = 0;
                int high = 9;
                if (letter == 'h') high = 1;
                if (letter != 'h' && letter != 'a') {
                    low = f == 0 ? 1 : 0;
                    high = f == 0 ? 9 : f == 1 ? 5 : figure[0];
                }
                if (value < low || value > high) return here;
                figure[f] = value;
                if (letter == 'a' && f % 2 == 1 && 10 * figure[f - 1] + value > 63) return here - 1;
            }
            if (letter == 'h') {
                headed = true;
                first.frost = figure[0] == 1;
            } else if (letter == 'a') {
                ActModel act = new ActModel();
                for (int b = 0; b < 6; b++) {
                    if ((10 * figure[0] + figure[1] & 1 << b) != 0) act.needs.add(b);
                    if ((10 * figure[2] + figure[3] & 1 << b) != 0) act.forbids.add(b);
                }
                acts.add(act);
            } else {
                RopeModel rope = new RopeModel();
                rope.letter = letter;
                rope.strength = figure[0];
                rope.moves = figure[1];
                rope.firstStrain = figure[2];
                ropes.add(rope);
            }
            place += 1 + figures;
        }
    }

    private int movedBy(int i) {
        int moves = ropes.get(i).moves;
        return moves == i || moves >= ropes.size() ? -9 : moves;
    }

    private int detail(int i, int what) {
        int[] all = {ropes.get(i).kind(), ropes.get(i).holds(), movedBy(i), now().strain[i],
            now().loose[i] ? 0 : 1, now().parted[i] ? 1 : 0};
        return all[what];
    }

    int rope(int i, int what) {
        if (!in(0, i, ropes.size() - 1) || !in(0, what, 5)) return -1;
        return tell(detail(i, what));
    }

    int mark(int i, int kind) {
        if (!in(0, i, ropes.size() - 1) || !in(1, kind, 5)) return -1;
        String are = new String[] {"", "st", "p", "nw", "t", "w"}[kind];
        if (are.indexOf(ropes.get(i).letter) < 0) return find(3);
        int others = 0;
        switch (kind) {
            case 1:
                return ropes.get(i).strength - now().strain[i];
            case 2:
                for (int j = 0; j < ropes.size(); j++) {
                    if (j != i && movedBy(i) >= 0 && movedBy(j) == movedBy(i)) others++;
                }
                return others;
            case 3:
                return passed(ropes.get(i).kind(), now().strain[i]);
            case 4:
                for (int j = 0; j < ropes.size(); j++) {
                    if (j != i && ropes.get(j).moves == i) others++;
                }
                return others;
            default:
                for (int j = 0; j < ropes.size(); j++) {
                    if (j != i && now().strain[j] > 0) others++;
                }
                return others;
        }
    }

    static int passed(int kind, int n) {
        switch (kind) {
            case 0: return n / 2;
            case 1: return 0;
            case 2: return n;
            case 3: return n == 0 ? 0 : n - 1;
            case 4: return 0;
            default: return n == 0 ? 0 : (n - 1) / 2;
        }
    }

    /** What stands behind a HAUL; which came by it and which PARTED is noted on it. */
    private Standing hauled(Standing before, int i, int n) {
        Standing after = before.copy();
        int strain = n;
        if (before.frost && ropes.get(i).letter != 't') strain++;
        come(after, i, strain);
        return after;
    }

    private void come(Standing s, int i, int strain) {
        s.bits |= 1 << i;
        s.strain[i] += strain;
        if (s.strain[i] > ropes.get(i).holds()) {
            s.parted[i] = true;
            s.strain[i] = 0;
            s.fell = i;
            return;
        }
        int on = passed(ropes.get(i).kind(), strain);
        int next = movedBy(i);
        if (on > 0 && next >= 0 && !s.loose[next] && !s.parted[next] && (s.bits & 1 << next) == 0) {
            come(s, next, on);
        }
    }

    private static Standing without(Standing before, int set) {
        Standing after = before.copy();
        for (int i = 0; i < 6; i++) {
            if ((set & 1 << i) != 0) {
                after.parted[i] = true;
                after.strain[i] = 0;
            }
        }
        return after;
    }

    private static boolean canBeHauled(Standing s, int i) {
        return !s.parted[i] && !s.loose[i];
    }

    private boolean done(Standing after) {
        if (deeds() >= 40) return false;
        after.bits = 0;
        after.fell = -9;
        story.add(after);
        return true;
    }

    private int countOf(boolean[] which) {
        int n = 0;
        for (boolean b : which) if (b) n++;
        return n;
    }

    private static int bitsOf(boolean[] which) {
        int n = 0;
        for (int i = 0; i < 6; i++) if (which[i]) n += 1 << i;
        return n;
    }

    int haul(int i, int n) {
        if (!in(0, i, ropes.size() - 1) || !in(1, n, 9)) return -1;
        if (!canBeHauled(now(), i)) return -4;
        Standing after = hauled(now(), i, n);
        int fell = after.fell;
        return done(after) ? (fell < 0 ? 0 : 1) : -2;
    }

    int slack(int i) {
        if (!in(0, i, ropes.size() - 1)) return -1;
        if (!canBeHauled(now(), i)) return -4;
        int was = now().strain[i];
        Standing after = now().copy();
        after.strain[i] = 0;
        after.loose[i] = true;
        return done(after) ? was : -2;
    }

    int belay(int i) {
        if (!in(0, i, ropes.size() - 1)) return -1;
        if (now().parted[i] || !now().loose[i]) return -4;
        Standing after = now().copy();
        after.loose[i] = false;
        return done(after) ? countOf(after.loose) : -2;
    }

    int cut(int i) {
        if (!in(0, i, ropes.size() - 1)) return -1;
        if (now().parted[i]) return -4;
        Standing after = without(now(), 1 << i);
        return done(after) ? countOf(after.parted) : -2;
    }

    int splice(int i) {
        if (!in(0, i, ropes.size() - 1)) return -1;
        if (!now().parted[i]) return -4;
        Standing after = now().copy();
        after.parted[i] = false;
        after.loose[i] = false;
        after.strain[i] = 0;
        return done(after) ? countOf(after.parted) : -2;
    }

    int frost(int on) {
        if (!in(0, on, 1)) return -1;
        if (ropes.isEmpty() || now().frost == (on == 1)) return -4;
        Standing after = now().copy();
        after.frost = on == 1;
        return done(after) ? on : -2;
    }

    int undo(int n) {
        if (!in(0, n, deeds())) return -1;
        int undone = deeds() - n;
        while (deeds() > n) story.remove(story.size() - 1);
        return undone;
    }

    int keep(int k) {
        if (!in(0, k, 2)) return -1;
        if (ropes.isEmpty()) return -4;
        kept.set(k, new ArrayList<>(story));
        return deeds();
    }

    int on(int k) {
        if (!in(0, k, 2)) return -1;
        if (kept.get(k) == null) return find(1);
        story.clear();
        story.addAll(kept.get(k));
        return deeds();
    }

    int passes(int i, int n) {
        if (!in(0, i, ropes.size() - 1) || !in(0, n, 99)) return -1;
        return passed(ropes.get(i).kind(), n);
    }

    int moves(int i, int n) {
        if (!in(0, i, ropes.size() - 1) || !in(1, n, 9)) return -1;
        if (!canBeHauled(now(), i)) return -4;
        Standing after = hauled(now(), i, n);
        tell(after.fell);
        return after.bits;
    }

    int parts(int i) {
        if (!in(0, i, ropes.size() - 1)) return -1;
        if (!canBeHauled(now(), i)) return -4;
        for (int n = 1; n <= 20; n++) {
            Standing after = hauled(now(), i, n);
            if (after.fell >= 0) {
                tell(after.fell);
                return n;
            }
        }
        return -9;
    }

    private boolean isLawful(ActModel act, Standing s) {
        for (int i : act.needs) if (i < ropes.size() && s.strain[i] == 0) return false;
        for (int i : act.forbids) if (i < ropes.size() && s.strain[i] > 0) return false;
        return true;
    }

    private int lawfulIn(Standing s) {
        int set = 0;
        for (int a = 0; a < acts.size(); a++) if (isLawful(acts.get(a), s)) set += 1 << a;
        return set;
    }

    int lawful() {
        return ropes.isEmpty() ? -4 : lawfulIn(now());
    }

    /** Rows of deeds by length, of one length in their order: the first by which it is lawful. */
    int least(int a, int r) {
        if (!in(0, a, acts.size() - 1) || !in(0, r, 5)) return -1;
        List<Standing> ends = new ArrayList<>(List.of(now()));
        List<int[]> ways = new ArrayList<>(List.of(new int[0]));
        for (int length = 0; length <= 4; length++) {
            for (int w = 0; w < ends.size(); w++) {
                if (isLawful(acts.get(a), ends.get(w))) {
                    rows[r] = ways.get(w);
                    return length;
                }
            }
            if (length == 4) return -9;
            List<Standing> newEnds = new ArrayList<>();
            List<int[]> newWays = new ArrayList<>();
            for (int w = 0; w < ends.size(); w++) {
                for (int deed = 0; deed < 12; deed++) {
                    int i = deed % 6;
                    if (i >= ropes.size() || !canBeHauled(ends.get(w), i)) continue;
                    Standing after;
                    if (deed < 6) {
                        after = hauled(ends.get(w), i, 1);
                        if (after.fell >= 0) continue;
                    } else {
                        after = ends.get(w).copy();
                        after.strain[i] = 0;
                        after.loose[i] = true;
                    }
                    int[] way = Arrays.copyOf(ways.get(w), length + 1);
                    way[length] = deed;
                    newEnds.add(after);
                    newWays.add(way);
                }
            }
            ends = newEnds;
            ways = newWays;
        }
        return -9;
    }

    int fall() {
        if (ropes.isEmpty()) return -4;
        for (int few = 0; few <= ropes.size(); few++) {
            for (int set = 0; set < 1 << ropes.size(); set++) {
                if (Integer.bitCount(set) != few || (set & bitsOf(now().parted)) != 0) continue;
                if (lawfulIn(without(now(), set)) == 0) {
                    tell(set);
                    return few;
                }
            }
        }
        return -9;
    }

    int idle() {
        if (ropes.isEmpty()) return -4;
        int set = 0;
        for (int i = 0; i < ropes.size(); i++) {
            if (!now().parted[i] && lawful() == lawfulIn(without(now(), 1 << i))) set += 1 << i;
        }
        return set;
    }

    int share(int v, int r) {
        if (!in(0, v, 60) || !in(0, r, 5)) return -1;
        if (ropes.isEmpty()) return -4;
        int[] has = new int[ropes.size()];
        int rest = v;
        while (rest > 0) {
            int best = -1;
            for (int i = ropes.size() - 1; i >= 0; i--) {
                int room = ropes.get(i).holds() - now().strain[i] - has[i];
                if (!canBeHauled(now(), i) || room <= 0) continue;
                if (best < 0 || room >= ropes.get(best).holds() - now().strain[best] - has[best]) best = i;
            }
            if (best < 0) break;
            has[best]++;
            rest--;
        }
        rows[r] = has;
        return rest;
    }

    private int refuse(int r) {
        if (!in(0, r, 5)) return -1;
        if (rows[r] == null) return find(1);
        if (rows[r].length > 16 || rows[r].length % 2 == 1) return find(5);
        for (int v : rows[r]) if (!in(0, v, 99)) return find(3);
        return 0;
    }

    private TreeSet<Integer> fitting(int r) {
        TreeSet<Integer> set = new TreeSet<>(List.of(0, 1, 2, 3, 4, 5));
        for (int p = 0; p < rows[r].length; p += 2) {
            int pair = p;
            set.removeIf(kind -> passed(kind, rows[r][pair]) != rows[r][pair + 1]);
        }
        return set;
    }

    int who(int r) {
        int refused = refuse(r);
        if (refused != 0) return refused;
        int set = 0;
        for (int i = 0; i < ropes.size(); i++) if (fitting(r).contains(ropes.get(i).kind())) set += 1 << i;
        return set;
    }

    int kinds(int r) {
        int refused = refuse(r);
        if (refused != 0) return refused;
        int set = 0;
        for (int kind : fitting(r)) set += 1 << kind;
        return set;
    }

    int test(int r) {
        int refused = refuse(r);
        if (refused != 0) return refused;
        if (fitting(r).isEmpty()) return -9;
        int bestStrain = -1;
        int bestPart = 99;
        for (int strain = 0; strain <= 20; strain++) {
            int[] parts = new int[100];
            for (int kind : fitting(r)) parts[passed(kind, strain)]++;
            int greatest = Arrays.stream(parts).max().getAsInt();
            if (greatest < bestPart) {
                bestPart = greatest;
                bestStrain = strain;
            }
        }
        tell(bestPart);
        return bestStrain;
    }

    int duel(int n) {
        if (!in(0, n, 3)) return -1;
        if (ropes.isEmpty()) return -4;
        return tell(duel(now(), 0, 2 * n));
    }

    private int duel(Standing s, int turn, int turns) {
        if (turn == turns) {
            int more = 0;
            for (int i = 0; i < 6; i++) if (s.parted[i]) more += i % 2 == 1 ? 1 : -1;
            return more;
        }
        List<Integer> values = new ArrayList<>();
        values.add(duel(s, turn + 1, turns));
        for (int i = 0; i < ropes.size(); i++) {
            if (i % 2 == turn % 2 && canBeHauled(s, i)) values.add(duel(hauled(s, i, 1), turn + 1, turns));
        }
        int best = values.get(0);
        for (int v : values) best = turn % 2 == 0 ? Math.max(best, v) : Math.min(best, v);
        return best;
    }

    int odds(int a, int p) {
        if (!in(0, a, acts.size() - 1) || !in(0, p, 12)) return -1;
        tellPart(chance(now(), 0, p, 1 << a), BigInteger.valueOf(12).pow(ropes.size()));
        return 1;
    }

    int mid(int p) {
        if (!in(0, p, 12)) return -1;
        if (ropes.isEmpty()) return -4;
        tellPart(chance(now(), 0, p, 15), BigInteger.valueOf(12).pow(ropes.size()));
        return 1;
    }

    private BigInteger chance(Standing s, int i, int p, int wanted) {
        if (i == ropes.size()) return BigInteger.valueOf(Integer.bitCount(lawfulIn(s) & wanted));
        if (s.parted[i]) return chance(s, i + 1, p, wanted).multiply(BigInteger.valueOf(12));
        BigInteger gone = chance(without(s, 1 << i), i + 1, p, wanted).multiply(BigInteger.valueOf(p));
        return gone.add(chance(s, i + 1, p, wanted).multiply(BigInteger.valueOf(12 - p)));
    }

    private void tellPart(BigInteger part, BigInteger whole) {
        upper = part.divide(part.gcd(whole));
        lower = whole.divide(part.gcd(whole));
    }

    int lots(int n, int seed) {
        if (!in(1, n, 20) || !in(1, seed, 2147483646)) return -1;
        if (ropes.isEmpty()) return -4;
        if (deeds() + n > 40) return -2;
        BigInteger it = BigInteger.valueOf(seed);
        for (int d = 0; d < n; d++) {
            it = it.multiply(BigInteger.valueOf(48271)).mod(BigInteger.valueOf(2147483647));
            int x = it.intValueExact();
            int i = x % ropes.size();
            Standing after = now().copy();
            int what = x / 8 % 8;
            if (what <= 4 && canBeHauled(after, i)) {
                after = hauled(after, i, x / 64 % 4 + 1);
            } else if (what == 5 && !after.parted[i]) {
                after.loose[i] = !after.loose[i];
                after.strain[i] = 0;
            } else if (what == 6 && after.parted[i]) {
                after.parted[i] = false;
                after.loose[i] = false;
            } else if (what == 7) {
                after.frost = !after.frost;
            }
            done(after);
        }
        return Integer.bitCount(lawful());
    }

    int count(int what) {
        if (!in(0, what, 12)) return -1;
        int n = 0;
        switch (what) {
            case 0: return ropes.size();
            case 1: return acts.size();
            case 2: return deeds();
            case 3: return now().frost ? 1 : 0;
            case 4:
                for (int i = 0; i < 6; i++) if (now().strain[i] > 0) n += 1 << i;
                return n;
            case 5: return bitsOf(now().loose);
            case 6: return bitsOf(now().parted);
            case 7: return Arrays.stream(now().strain).sum();
            case 8:
                for (RopeModel rope : ropes) if ("st".indexOf(rope.letter) >= 0) n++;
                return n;
            case 9:
                for (RopeModel rope : ropes) if ("nw".indexOf(rope.letter) >= 0) n++;
                return n;
            case 10:
                for (int[] row : rows) if (row != null) n++;
                return n;
            case 11:
                for (byte[] text : texts) if (text != null) n++;
                return n;
            default:
                for (List<Standing> one : kept) if (one != null) n++;
                return n;
        }
    }

    int findings(int f) {
        return in(1, f, 5) ? found[f] : -1;
    }

    long digest() {
        List<Integer> told = new ArrayList<>();
        for (int what = 0; what <= 12; what++) told.add(count(what));
        for (int i = 0; i < ropes.size(); i++) for (int what = 0; what < 6; what++) told.add(detail(i, what));
        for (ActModel act : acts) told.add(isLawful(act, now()) ? 1 : 0);
        for (List<Standing> one : kept) told.add(one == null ? -1 : one.size() - 1);
        for (int[] row : rows) {
            told.add(row == null ? -1 : row.length);
            if (row != null) for (int v : row) told.add(v);
        }
        for (byte[] text : texts) {
            told.add(text == null ? -1 : text.length);
            if (text != null) for (byte v : text) told.add((int) v);
        }
        long h = 17;
        for (int v : told) h = 31 * h + v;
        return h;
    }
}
