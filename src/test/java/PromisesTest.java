/** Each promise of the document by itself: ordinary inputs, the edges that it names, wrong inputs. */
public final class PromisesTest {
    private static final int BAD = -1, FULL = -2, FINDING = -3, STATE = -4, NONE = -9;
    private static final int LEAST_INT = Integer.MIN_VALUE, MOST_INT = Integer.MAX_VALUE;
    /** r 0 moves 1, p 1 moves 3, n 2 moves 4, s 3 moves 5, w 4 moves 3, t 5 moves 4. */
    private static final String SIX = "h0r512p630n742s453w830t941a0108a2221a0044";
    private static int wrong = 0;
    private static int promise = 0;

    public static void main(String[] args) {
        newObject();
        rowsAreMadeLaidTornCopied();
        meanOfARow();
        texts();
        faults();
        courts();
        ropesAndMarks();
        hauls();
        slackBelayCutSplice();
        frostAndUndo();
        keepAndOn();
        fullOfDeeds();
        whatWouldBe();
        lawfulActs();
        least();
        fallAndIdle();
        share();
        byWhatCameOn();
        duels();
        chances();
        lots();
        whatIsTold();
        digests();
        System.out.println(wrong == 0 ? "PromisesTest: all as due" : "PromisesTest: " + wrong + " wrong");
        if (wrong != 0) {
            System.exit(1);
        }
    }

    private static void due(String what, long got, long want) {
        if (got != want) {
            wrong++;
            System.out.println("promise " + promise + ": " + what + " answered " + got + ", due is " + want);
        }
    }

    private static void dueTold(String what, LawRigging x, int answer, int told) {
        due(what, answer, 1);
        due(what + " told", x.asked(), told);
    }

    private static void dueFinding(String what, LawRigging x, int answer, int finding) {
        due(what, answer, FINDING);
        due(what + " finding", x.finding(), finding);
    }

    private static void duePart(String what, LawRigging x, int answer, long upper, long lower) {
        due(what, answer, 1);
        due(what + " upper", x.upper(), upper);
        due(what + " lower", x.lower(), lower);
    }

    private static void write(LawRigging x, int t, String signs) {
        x.text(t, signs.length());
        for (int i = 0; i < signs.length(); i++) {
            x.put(t, i, signs.charAt(i));
        }
    }

    private static LawRigging courtBy(String signs) {
        LawRigging x = new LawRigging();
        write(x, 0, signs);
        int ropes = x.court(0);
        if (ropes < 1) {
            due("court by " + signs, ropes, 1);
        }
        return x;
    }

    private static void fill(LawRigging x, int r, int... values) {
        x.row(r, values.length);
        for (int i = 0; i < values.length; i++) {
            x.lay(r, i, values[i]);
        }
    }

    private static void dueRow(String what, LawRigging x, int r, int... values) {
        for (int i = 0; i < values.length; i++) {
            dueTold(what + " at " + i, x, x.at(r, i), values[i]);
        }
        due(what + " ends", x.at(r, values.length), FINDING);
    }

    private static int detail(LawRigging x, int i, int what) {
        due("rope(" + i + ", " + what + ")", x.rope(i, what), 1);
        return x.asked();
    }

    private static void newObject() {
        promise = 1;
        LawRigging x = new LawRigging();
        for (int what = 0; what <= 12; what++) {
            due("count", x.count(what), 0);
        }
        for (int r = 0; r < 6; r++) {
            dueFinding("at", x, x.at(r, 0), 1);
        }
        for (int t = 0; t < 4; t++) {
            dueFinding("fault", x, x.fault(t), 1);
        }
        for (int k = 0; k < 3; k++) {
            dueFinding("on", x, x.on(k), 1);
        }
        due("rope", x.rope(0, 0), BAD);
        due("lawful", x.lawful(), STATE);
        due("BAD", LawRigging.BAD, -1);
        due("FULL", LawRigging.FULL, -2);
        due("FINDING", LawRigging.FINDING, -3);
        due("STATE", LawRigging.STATE, -4);
        due("SPENT", LawRigging.SPENT, -6);
        due("NONE", LawRigging.NONE, -9);
    }

    private static void rowsAreMadeLaidTornCopied() {
        LawRigging x = new LawRigging();
        promise = 2;
        due("row", x.row(0, 40), 40);
        due("row", x.row(5, 0), 0);
        due("row above", x.row(0, 41), BAD);
        due("row -1", x.row(-1, 3), BAD);
        due("row 6", x.row(6, 3), BAD);
        due("row 6 below", x.row(6, -3), BAD);
        dueFinding("row below", x, x.row(0, -1), 5);
        dueTold("last place", x, x.at(0, 39), 0);
        x.lay(0, 0, 7);
        due("anew", x.row(0, 2), 2);
        dueRow("anew", x, 0, 0, 0);

        promise = 3;
        dueTold("lay", x, x.lay(0, 1, LEAST_INT), 0);
        dueTold("lay again", x, x.lay(0, 1, 5), LEAST_INT);
        due("lay -1", x.lay(-1, 0, 0), BAD);
        due("lay 6", x.lay(6, 0, 0), BAD);
        dueFinding("lay missing", x, x.lay(1, 0, 0), 1);
        dueFinding("lay beyond", x, x.lay(0, 2, 0), 2);
        dueFinding("lay below", x, x.lay(0, -1, 0), 2);
        dueFinding("lay empty", x, x.lay(5, 0, 0), 2);
        due("asked stays", x.asked(), LEAST_INT);

        promise = 4;
        dueTold("at", x, x.at(0, 1), 5);
        due("at -1", x.at(-1, 0), BAD);
        due("at 6", x.at(6, 0), BAD);
        dueFinding("at missing", x, x.at(1, 0), 1);
        dueFinding("at beyond", x, x.at(0, 2), 2);
        dueFinding("at below", x, x.at(0, LEAST_INT), 2);
        dueFinding("at far", x, x.at(0, MOST_INT), 2);

        promise = 5;
        due("tear", x.tear(5), 1);
        dueFinding("torn", x, x.tear(5), 1);
        due("tear -1", x.tear(-1), BAD);
        due("tear 6", x.tear(6), BAD);
        due("rows", x.count(10), 1);
        copies();
    }

    private static void copies() {
        promise = 6;
        LawRigging x = new LawRigging();
        fill(x, 0, 1, 2, 3, 4, 5);
        fill(x, 1, 9, 9, 9);
        due("copy", x.copy(0, 1, 1, 0, 2), 1);
        dueRow("copy", x, 1, 2, 3, 9);
        due("copy onward in itself", x.copy(0, 0, 0, 1, 4), 1);
        dueRow("copy onward", x, 0, 1, 1, 2, 3, 4);
        due("copy back in itself", x.copy(0, 1, 0, 0, 4), 1);
        dueRow("copy back", x, 0, 1, 2, 3, 4, 4);
        due("none", x.copy(0, 5, 1, 3, 0), 1);
        dueFinding("none, from below", x, x.copy(0, -1, 1, 0, 0), 2);
        dueFinding("none, from above", x, x.copy(0, 6, 1, 0, 0), 2);
        dueFinding("none, to below", x, x.copy(0, 0, 1, -1, 0), 2);
        dueFinding("none, to above", x, x.copy(0, 0, 1, 4, 0), 2);
        dueFinding("too many there", x, x.copy(0, 3, 1, 0, 3), 2);
        dueFinding("too many here", x, x.copy(0, 0, 1, 1, 3), 2);
        dueFinding("far too many", x, x.copy(0, 1, 1, 1, MOST_INT), 2);
        dueFinding("far from", x, x.copy(0, MOST_INT, 1, 0, 1), 2);
        dueFinding("below none", x, x.copy(0, 0, 1, 0, -1), 5);
        dueFinding("below none, missing", x, x.copy(2, 0, 1, 0, -1), 5);
        dueFinding("from missing", x, x.copy(2, 9, 1, 0, 1), 1);
        dueFinding("to missing", x, x.copy(1, 9, 2, 0, 1), 1);
        due("from none", x.copy(6, 0, 1, 0, -1), BAD);
        due("from -1", x.copy(-1, 0, 1, 0, 1), BAD);
        due("to none", x.copy(1, 0, 6, 0, -1), BAD);
        due("to -1", x.copy(1, 0, -1, 0, 1), BAD);
        dueRow("as it was", x, 1, 2, 3, 9);
    }

    private static void meanOfARow() {
        promise = 7;
        LawRigging x = new LawRigging();
        fill(x, 0, 1, 2, 5);
        dueTold("mean", x, x.mean(0), 2);
        fill(x, 0, 7);
        dueTold("mean of one", x, x.mean(0), 7);
        fill(x, 0, -3, -4);
        dueTold("mean below", x, x.mean(0), -3);
        fill(x, 0, MOST_INT, MOST_INT, MOST_INT);
        dueTold("mean of most", x, x.mean(0), MOST_INT);
        fill(x, 0, LEAST_INT, LEAST_INT);
        dueTold("mean of least", x, x.mean(0), LEAST_INT);
        x.row(1, 0);
        dueFinding("mean of none", x, x.mean(1), 4);
        dueFinding("mean of missing", x, x.mean(2), 1);
        due("mean -1", x.mean(-1), BAD);
        due("mean 6", x.mean(6), BAD);
    }

    private static void texts() {
        LawRigging x = new LawRigging();
        promise = 8;
        due("text", x.text(0, 60), 60);
        due("text", x.text(3, 0), 0);
        due("text above", x.text(0, 61), BAD);
        due("text -1", x.text(-1, 1), BAD);
        due("text 4", x.text(4, 1), BAD);
        due("text 4 below", x.text(4, -1), BAD);
        dueFinding("text below", x, x.text(0, -1), 5);
        due("blank", x.put(0, 59, 1), 1032);
        due("anew", x.text(0, 60), 60);
        due("blank again", x.put(0, 59, 1), 1032);
        due("texts", x.count(11), 2);

        promise = 9;
        due("put", x.put(0, 0, 127), 1032);
        due("put", x.put(0, 0, 128), 1127);
        due("put", x.put(0, 0, -129), 872);
        due("put", x.put(0, 0, 256 + 65), 1127);
        due("put", x.put(0, 0, 0), 1065);
        due("put at a place", x.put(0, 1, 7), 1032);
        due("put at another", x.put(0, 2, 8), 1032);
        due("put, what that place was", x.put(0, 1, 9), 1007);
        due("put, what the other was", x.put(0, 2, 9), 1008);
        due("put, what the first was", x.put(0, 0, 9), 1000);
        due("put -1", x.put(-1, 0, 0), BAD);
        due("put 4", x.put(4, 0, 0), BAD);
        dueFinding("put missing", x, x.put(1, 0, 0), 1);
        dueFinding("put beyond", x, x.put(0, 60, 0), 2);
        dueFinding("put below", x, x.put(0, -1, 0), 2);
        dueFinding("put into none", x, x.put(3, 0, 0), 2);
    }

    private static void dueFault(String signs, int fault) {
        LawRigging x = new LawRigging();
        write(x, 2, signs);
        due("fault of '" + signs + "'", x.fault(2), fault);
        if (fault != NONE) {
            due("court by '" + signs + "'", x.court(2), STATE);
        }
        due("no finding", x.finding(), 0);
    }

    private static void faults() {
        promise = 10;
        dueFault("h0r100a0000", NONE);
        dueFault("  h1  r951   a6300  ", NONE);
        dueFault("h0r100s100p100n100t100w100a0000a0000a0000a0000", NONE);
        dueFault("h0r359a0000", 5);
        dueFault("h0r354a0000", 5);
        dueFault("h0r353a0000", NONE);
        dueFault("", 0);
        dueFault("   ", 3);
        dueFault("h", 1);
        dueFault("h0", 2);
        dueFault("h0 ", 3);
        dueFault("h2r100a0000", 1);
        dueFault("h 0r100a0000", 1);
        dueFault("r100a0000", 0);
        dueFault(" 0", 1);
        dueFault("h0h0", 2);
        dueFault("h0a0000", 2);
        dueFault("a0000", 0);
        dueFault("h0x", 2);
        dueFault("h0R100", 2);
        dueFault("h0r", 3);
        dueFault("h0r000a0000", 3);
        dueFault("h0rx", 3);
        dueFault("h0r1", 4);
        dueFault("h0r160a0000", 4);
        dueFault("h0r10", 5);
        dueFault("h0r102a0000", 5);
        dueFault("h0r1 00a0000", 4);
        dueFault("h0r100", 6);
        dueFault("h0r100  ", 8);
        dueFault("h0r100a", 7);
        dueFault("h0r100a0", 8);
        dueFault("h0r100a00", 9);
        dueFault("h0r100a000", 10);
        dueFault("h0r100a6400", 7);
        dueFault("h0r100a0064", 9);
        dueFault("h0r100a0099", 9);
        dueFault("h0r100a6363", NONE);
        dueFault("h0r100a7x00", 8);
        dueFault("h0r100a7", 8);
        dueFault("h0r100ax", 7);
        dueFault("h0r100a00/0", 9);
        dueFault("h0r100a00:0", 9);
        dueFault("h0r100a00 00", 9);
        dueFault("h0r100a0000r100", 11);
        dueFault("h0r100a0000h", 11);
        dueFault("h0r100r100r100r100r100r100r100", 26);
        dueFault("h0r100a0000a0000a0000a0000a0000", 26);
        dueFault("h0r100a0000a000", 15);
        dueFault("h0r100a0000 x", 12);
        dueFault("h0r100a0000" + (char) 160, 11);
        LawRigging x = new LawRigging();
        due("fault -1", x.fault(-1), BAD);
        due("fault 4", x.fault(4), BAD);
        dueFinding("fault missing", x, x.fault(0), 1);
        write(x, 0, "h0r100a0000");
        due("fault", x.fault(0), NONE);
        due("no court by fault", x.count(0), 0);
    }

    private static void courts() {
        promise = 11;
        LawRigging x = courtBy("h1s412a0101");
        due("ropes", x.court(0), 1);
        due("acts", x.count(1), 1);
        due("frost", x.count(3), 1);
        x.slack(0);
        x.keep(1);
        x.keep(0);
        x.keep(2);
        x.cut(0);
        write(x, 1, "h0r512n101a0000a0000");
        due("anew", x.court(1), 2);
        due("ropes", x.count(0), 2);
        due("acts", x.count(1), 2);
        due("deeds", x.count(2), 0);
        due("frost", x.count(3), 0);
        due("taut", x.count(4), 3);
        due("let go", x.count(5), 0);
        due("parted", x.count(6), 0);
        due("strains", x.count(7), 3);
        due("kept", x.count(12), 0);
        for (int k = 0; k < 3; k++) {
            dueFinding("kept gone", x, x.on(k), 1);
        }
        x.haul(0, 1);
        write(x, 2, "h0r512n102a0000");
        due("a fault", x.court(2), STATE);
        due("as it was", x.count(2), 1);
        due("court -1", x.court(-1), BAD);
        due("court 4", x.court(4), BAD);
        dueFinding("court missing", x, x.court(3), 1);
        x = courtBy("h0p101a0000");
        due("a splice above what it holds", x.count(4), 1);
        due("has not parted", x.count(6), 0);
        due("till hauled", x.haul(0, 1), 1);
        x = courtBy("h0p111p101a0000");
        due("or strain comes to it", x.haul(1, 1), 1);
    }

    private static void ropesAndMarks() {
        promise = 12;
        LawRigging x = courtBy(SIX);
        int[][] details = {{0, 5, 1, 2, 1, 0}, {2, 5, 3, 0, 1, 0}, {3, 7, 4, 2, 1, 0},
            {1, 4, 5, 3, 1, 0}, {5, 8, 3, 0, 1, 0}, {4, 9, 4, 1, 1, 0}};
        for (int i = 0; i < 6; i++) {
            for (int what = 0; what < 6; what++) {
                due("rope(" + i + ", " + what + ")", detail(x, i, what), details[i][what]);
            }
        }
        x.slack(0);
        x.cut(1);
        due("let go", detail(x, 0, 4), 0);
        due("let go strain", detail(x, 0, 3), 0);
        due("parted", detail(x, 1, 5), 1);
        due("parted, made off", detail(x, 1, 4), 1);
        due("rope -1", x.rope(-1, 0), BAD);
        due("rope 6", x.rope(6, 0), BAD);
        due("rope what", x.rope(0, 6), BAD);
        due("rope what", x.rope(0, -1), BAD);
        x = courtBy("h0r110r120a0000");
        due("moves another", detail(x, 0, 2), 1);
        due("moves one that there is not", detail(x, 1, 2), NONE);
        x = courtBy("h0r100a0000");
        due("moves itself", detail(x, 0, 2), NONE);
        marks();
    }

    private static void marks() {
        promise = 13;
        LawRigging x = courtBy(SIX);
        int[][] due = {{-3, -3, -3, -3, -3}, {-3, 1, -3, -3, -3}, {-3, -3, 1, -3, -3},
            {1, -3, -3, -3, -3}, {-3, -3, 0, -3, 4}, {8, -3, -3, 1, -3}};
        for (int i = 0; i < 6; i++) {
            for (int kind = 1; kind <= 5; kind++) {
                due("mark(" + i + ", " + kind + ")", x.mark(i, kind), due[i][kind - 1]);
            }
        }
        due("finding", x.finding(), 3);
        due("mark -1", x.mark(-1, 1), BAD);
        due("mark 6", x.mark(6, 1), BAD);
        due("kind 0", x.mark(0, 0), BAD);
        due("kind 6", x.mark(0, 6), BAD);
        x = courtBy("h0p500p500w606p510a0000");
        due("splice that moves none", x.mark(0, 2), 0);
        due("splice beside a widow", x.mark(1, 2), 1);
        due("widow as running", x.mark(2, 3), 2);
        due("widow taut alone", x.mark(2, 5), 0);
        x = courtBy("h0p511p511p511t555r511a0000");
        due("splice that two others go with", x.mark(0, 2), 2);
        due("splice that moves itself", x.mark(1, 2), 0);
        due("tarred that none moves", x.mark(3, 4), 0);
        due("tarred full", x.mark(3, 1), 0);
    }

    private static void hauls() {
        promise = 14;
        LawRigging x = courtBy("h0n920n930p950n910a0000");
        due("haul", x.haul(0, 5), 0);
        due("on", x.count(7), 5 + 4);
        x = courtBy("h0n910p820n930p950a0000");
        due("haul through", x.haul(0, 9), 1);
        due("parted on the way", x.count(6), 2);
        due("nothing goes on", x.count(4), 1);
        x = courtBy("h0n910p910n930p900a0000");
        due("haul on", x.haul(2, 6), 0);
        due("strain comes round", detail(x, 0, 3), 5);
        due("from the last", detail(x, 3, 3), 5);
        due("stays where it is not moved", detail(x, 1, 3), 4);
        x = courtBy("h0p910p900a0000");
        due("once by one haul", x.haul(0, 4), 0);
        due("first", detail(x, 0, 3), 4);
        due("second", detail(x, 1, 3), 4);
        x = courtBy("h0r910r920s930r900a0000");
        x.haul(0, 5);
        due("half on", detail(x, 1, 3), 2);
        due("half of it on", detail(x, 2, 3), 1);
        due("nothing from a stay", detail(x, 3, 3), 0);
        x = courtBy("h0r910r900a0000");
        x.haul(0, 1);
        due("nothing on", detail(x, 1, 3), 0);
        x.slack(1);
        due("to one let go", x.haul(0, 4), 0);
        due("not", detail(x, 1, 3), 0);
        x.cut(1);
        due("to one parted", x.haul(0, 2), 0);
        due("not either", x.count(7), 7);
        due("up to what it holds", x.haul(0, 2), 0);
        due("above", x.haul(0, 1), 1);
        due("strain gone", detail(x, 0, 3), 0);
        due("parted", x.haul(0, 1), STATE);
        due("n 0", x.haul(0, 0), BAD);
        due("n 10", x.haul(0, 10), BAD);
        due("haul -1", x.haul(-1, 1), BAD);
        due("haul 2", x.haul(2, 1), BAD);
        x = courtBy("h0r900t900a0000");
        x.slack(0);
        due("let go", x.haul(0, 1), STATE);
        x.frost(1);
        x.haul(1, 3);
        due("tarred in frost", detail(x, 1, 3), 3);
        x.belay(0);
        x.haul(0, 3);
        due("in frost", detail(x, 0, 3), 4);
        due("passed on in frost", detail(x, 1, 3), 3);
        x = courtBy("h1w910r900a0000");
        x.haul(0, 4);
        due("widow in frost", detail(x, 0, 3), 5);
        due("half of one less", detail(x, 1, 3), 2);
    }

    private static void slackBelayCutSplice() {
        LawRigging x = courtBy("h0r914r923r905a0000");
        promise = 15;
        due("slack", x.slack(0), 4);
        due("let go", x.count(5), 1);
        due("strain", detail(x, 0, 3), 0);
        due("again", x.slack(0), STATE);
        due("slack -1", x.slack(-1), BAD);
        due("slack 3", x.slack(3), BAD);
        due("slack", x.slack(2), 5);
        due("deeds", x.count(2), 2);

        promise = 16;
        due("belay", x.belay(2), 1);
        due("let go yet", x.count(5), 1);
        due("made off", x.belay(2), STATE);
        due("belay -1", x.belay(-1), BAD);
        due("belay 3", x.belay(3), BAD);
        due("hauled again", x.haul(2, 1), 0);

        promise = 17;
        due("cut", x.cut(1), 1);
        due("cut let go", x.cut(0), 2);
        due("parted", x.count(6), 3);
        due("strain", detail(x, 1, 3), 0);
        due("again", x.cut(1), STATE);
        due("slack parted", x.slack(1), STATE);
        due("belay parted", x.belay(0), STATE);
        due("belay parted, made off", x.belay(1), STATE);
        due("cut -1", x.cut(-1), BAD);
        due("cut 3", x.cut(3), BAD);

        promise = 18;
        due("splice", x.splice(0), 1);
        due("made off", detail(x, 0, 4), 1);
        due("let go none", x.count(5), 0);
        due("parted", x.count(6), 2);
        due("strain", detail(x, 0, 3), 0);
        due("again", x.splice(0), STATE);
        due("splice", x.splice(1), 0);
        due("splice -1", x.splice(-1), BAD);
        due("splice 3", x.splice(3), BAD);
        due("deeds", x.count(2), 8);
    }

    private static void frostAndUndo() {
        promise = 19;
        LawRigging x = new LawRigging();
        due("no ropes", x.frost(1), STATE);
        due("no ropes, bad", x.frost(2), BAD);
        x = courtBy("h0r914s923a0000");
        due("none", x.frost(0), STATE);
        due("comes", x.frost(1), 1);
        due("is", x.count(3), 1);
        due("is there", x.frost(1), STATE);
        due("goes", x.frost(0), 0);
        due("gone", x.count(3), 0);
        due("frost -1", x.frost(-1), BAD);
        due("frost 2", x.frost(2), BAD);

        promise = 20;
        long atTwo = x.digest();
        x.cut(0);
        x.slack(1);
        x.frost(1);
        x.belay(1);
        due("undo above", x.undo(7), BAD);
        due("undo below", x.undo(-1), BAD);
        due("none", x.undo(6), 0);
        due("undo", x.undo(5), 1);
        due("let go again", x.count(5), 2);
        due("undo", x.undo(2), 3);
        due("as it was", x.digest(), atTwo);
        due("undo all", x.undo(0), 2);
        due("strains", x.count(7), 7);
        due("undo none", x.undo(0), 0);
        due("undo 1 of 0", x.undo(1), BAD);
        due("undo of no court", new LawRigging().undo(0), 0);
    }

    private static void keepAndOn() {
        promise = 21;
        LawRigging x = new LawRigging();
        due("no ropes", x.keep(0), STATE);
        due("no ropes, bad", x.keep(3), BAD);
        x = courtBy("h0r914s923a0000");
        due("keep", x.keep(2), 0);
        x.cut(0);
        x.frost(1);
        due("keep", x.keep(0), 2);
        long atTwo = x.digest();
        due("kept", x.count(12), 2);
        due("keep -1", x.keep(-1), BAD);
        due("keep 3", x.keep(3), BAD);

        promise = 22;
        x.slack(1);
        x.frost(0);
        x.splice(0);
        due("on", x.on(0), 2);
        due("undo goes behind", x.undo(1), 1);
        due("frost undone", x.count(3), 0);
        due("cut stays", x.count(6), 1);
        due("on again", x.on(0), 2);
        due("keep where it was not kept then", x.count(12), 2);
        due("on the first", x.on(2), 0);
        due("strains", x.count(7), 7);
        due("on", x.on(0), 2);
        x.keep(2);
        due("kept anew", x.on(2), 2);
        dueFinding("missing", x, x.on(1), 1);
        due("on -1", x.on(-1), BAD);
        due("on 3", x.on(3), BAD);
        x = courtBy("h0r914s923a0000");
        x.keep(2);
        x.cut(0);
        x.frost(1);
        x.keep(0);
        x.haul(1, 1);
        x.on(0);
        due("as it was kept", x.digest(), atTwo);
    }

    private static void fullOfDeeds() {
        promise = 14;
        LawRigging x = courtBy("h0r900n900a0000");
        for (int d = 0; d < 38; d++) {
            x.frost(1 - d % 2);
        }
        due("the 39th", x.slack(1), 0);
        due("the 40th", x.cut(0), 1);
        due("full, parted", x.haul(0, 1), STATE);
        due("full, let go", x.haul(1, 1), STATE);
        due("full, bad", x.haul(2, 1), BAD);
        promise = 15;
        due("full, let go", x.slack(1), STATE);
        promise = 16;
        due("full", x.belay(1), FULL);
        promise = 17;
        due("full", x.cut(1), FULL);
        due("full, cut", x.cut(0), STATE);
        promise = 18;
        due("full", x.splice(0), FULL);
        due("full, not parted", x.splice(1), STATE);
        promise = 19;
        due("full", x.frost(1), FULL);
        due("full, so", x.frost(0), STATE);
        promise = 37;
        due("full", x.lots(1, 5), FULL);
        due("full, bad", x.lots(0, 5), BAD);
        due("keep full", x.keep(0), 40);
        long whenKept = x.digest();
        due("undo", x.undo(38), 2);
        due("lots", x.lots(3, 5), FULL);
        x.haul(0, 1);
        due("lots", x.lots(2, 5), FULL);
        x.haul(1, 1);
        promise = 14;
        due("haul", x.haul(0, 1), FULL);
        promise = 15;
        due("slack", x.slack(0), FULL);
        promise = 22;
        due("on full", x.on(0), 40);
        due("as it was kept", x.digest(), whenKept);
        due("undo all", x.undo(0), 40);
    }

    private static void whatWouldBe() {
        promise = 23;
        LawRigging x = courtBy(SIX);
        int[][] passed = {{0, 0, 1, 4, 49}, {0, 1, 2, 9, 99}, {0, 0, 1, 8, 98},
            {0, 0, 0, 0, 0}, {0, 0, 0, 4, 49}, {0, 0, 0, 0, 0}};
        int[] strains = {0, 1, 2, 9, 99};
        for (int i = 0; i < 6; i++) {
            for (int s = 0; s < strains.length; s++) {
                due("passes(" + i + ", " + strains[s] + ")", x.passes(i, strains[s]), passed[i][s]);
            }
        }
        due("n -1", x.passes(0, -1), BAD);
        due("n 100", x.passes(0, 100), BAD);
        due("passes -1", x.passes(-1, 0), BAD);
        due("passes 6", x.passes(6, 0), BAD);
        x.cut(0);
        due("parted too", x.passes(0, 9), 4);

        promise = 24;
        x = courtBy(SIX);
        long before = x.digest();
        due("moves", x.moves(0, 1), 1);
        due("none parts", x.asked(), NONE);
        due("moves", x.moves(0, 6), 1);
        due("itself parts", x.asked(), 0);
        due("moves", x.moves(1, 5), 10);
        due("the other parts", x.asked(), 3);
        due("aside", x.digest(), before);
        due("n 0", x.moves(0, 0), BAD);
        due("n 10", x.moves(0, 10), BAD);
        due("moves -1", x.moves(-1, 1), BAD);
        due("moves 6", x.moves(6, 1), BAD);
        x.slack(0);
        x.cut(1);
        due("let go", x.moves(0, 1), STATE);
        due("parted", x.moves(1, 1), STATE);
        x = courtBy("h1n910p900a0000");
        due("in frost", x.moves(0, 1), 3);

        promise = 25;
        x = courtBy(SIX);
        before = x.digest();
        due("parts", x.parts(0), 4);
        due("itself", x.asked(), 0);
        due("parts", x.parts(1), 2);
        due("the one moved", x.asked(), 3);
        due("parts", x.parts(5), 9);
        due("itself", x.asked(), 5);
        due("aside", x.digest(), before);
        due("parts -1", x.parts(-1), BAD);
        due("parts 6", x.parts(6), BAD);
        x.slack(0);
        x.cut(1);
        due("let go", x.parts(0), STATE);
        due("parted", x.parts(1), STATE);
        x = courtBy("h1r900t900a0000");
        due("by n 9, and 1 in frost", x.parts(0), 9);
        due("by n 10", x.parts(1), 10);
        due("which", x.asked(), 1);
        x = courtBy("h0s101a0000");
        due("by n 1", x.parts(0), 1);
    }

    private static void lawfulActs() {
        promise = 26;
        LawRigging x = courtBy("h0r901r900a0100a0001a0002a6001");
        due("lawful", x.lawful(), 1 + 4);
        x.haul(1, 1);
        due("lawful", x.lawful(), 1);
        x.slack(0);
        due("lawful", x.lawful(), 2 + 8);
        x.cut(1);
        due("ropes that are not there are of no matter", x.lawful(), 2 + 4 + 8);
        due("no ropes", new LawRigging().lawful(), STATE);
    }

    private static void least() {
        promise = 27;
        LawRigging x = courtBy(SIX);
        long before = x.count(7);
        due("least", x.least(0, 1), 1);
        dueRow("let go", x, 1, 9);
        due("least by no four", x.least(1, 1), NONE);
        dueRow("the row stays", x, 1, 9);
        due("least", x.least(2, 1), 3);
        dueRow("let go three", x, 1, 8, 9, 11);
        due("aside", x.count(7), before);
        due("act -1", x.least(-1, 0), BAD);
        due("act 3", x.least(3, 0), BAD);
        due("row -1", x.least(0, -1), BAD);
        due("row 6", x.least(0, 6), BAD);
        due("no court", new LawRigging().least(0, 0), BAD);
        x = courtBy("h0r900a0000");
        due("lawful now", x.least(0, 3), 0);
        dueRow("none to do", x, 3);
        x = courtBy("h0n920n920n900a0400");
        due("by one haul", x.least(0, 0), 1);
        dueRow("at it", x, 0, 2);
        x = courtBy("h0p210p910a0201");
        due("haul the first, let it go, is no less", x.least(0, 0), 1);
        dueRow("at the other", x, 0, 1);
        x = courtBy("h0s900s900s900s900s900a3100");
        due("five", x.least(0, 0), NONE);
        x = courtBy("h0s900s900s900s900s900a1500");
        due("four", x.least(0, 0), 4);
        dueRow("lesser ones ahead", x, 0, 0, 1, 2, 3);
        x = courtBy("h0s111s902r913a0204");
        due("none may part", x.least(0, 0), 1);
        dueRow("let go", x, 0, 8);
        x = courtBy("h0p910p100a0100");
        due("none to part on the way", x.least(0, 0), 2);
        dueRow("that let go ahead", x, 0, 7, 0);
        x = courtBy("h0n210s900a0201");
        due("a haul at one", x.least(0, 0), 1);
        x = courtBy("h1n210n911a0201");
        due("in frost", x.least(0, 0), 0);
        x.slack(1);
        due("let go it is never taut", x.least(0, 0), NONE);
        x = courtBy("h0s911s911s922a0006a0700a0007");
        due("two to let go", x.least(0, 5), 2);
        dueRow("two to let go", x, 5, 7, 8);
        due("three to let go", x.least(2, 5), 3);
        dueRow("three to let go", x, 5, 6, 7, 8);
        x.cut(0);
        due("needs one parted", x.least(1, 5), NONE);
    }

    private static void fallAndIdle() {
        promise = 28;
        LawRigging x = courtBy("h0r901r901r901a0300a0600a0100a0001");
        due("fall", x.fall(), NONE);
        x = courtBy("h0r901r901r901a0300a0600");
        due("fall", x.fall(), 1);
        due("the one in both", x.asked(), 2);
        long deeds = x.count(2);
        due("aside", deeds, 0);
        x = courtBy("h0r901r901r901a0100a0400");
        due("fall", x.fall(), 2);
        due("both", x.asked(), 5);
        x.cut(0);
        due("fall", x.fall(), 1);
        due("the other", x.asked(), 4);
        x.cut(2);
        due("fall", x.fall(), 0);
        due("none", x.asked(), 0);
        x = courtBy("h0r901r901a0300");
        due("of as few", x.fall(), 1);
        due("the least number", x.asked(), 1);
        x = courtBy("h0r901r901r901a0500a0600");
        due("one of a greater number", x.fall(), 1);
        due("sooner than two of a lesser one", x.asked(), 4);
        x = courtBy("h0r901r901a0100a0201");
        due("fall", x.fall(), 2);
        due("not by one", x.asked(), 3);
        due("no ropes", new LawRigging().fall(), STATE);

        promise = 29;
        x = courtBy("h0r901r900r901r901a0100a0004");
        due("idle", x.idle(), 2 + 8);
        x.cut(3);
        due("parted ones not", x.idle(), 2);
        due("no ropes", new LawRigging().idle(), STATE);
    }

    private static void share() {
        promise = 30;
        LawRigging x = courtBy("h0r901p500s312a0000");
        long before = x.count(7);
        due("share", x.share(0, 1), 0);
        dueRow("none", x, 1, 0, 0, 0);
        due("share", x.share(5, 1), 0);
        dueRow("to the one that holds most more", x, 1, 5, 0, 0);
        due("share", x.share(6, 1), 0);
        dueRow("of like ones the first", x, 1, 5, 1, 0);
        due("share", x.share(13, 1), 0);
        dueRow("all", x, 1, 8, 4, 1);
        due("share", x.share(60, 1), 47);
        dueRow("none beyond", x, 1, 8, 4, 1);
        due("aside", x.count(7), before);
        x.slack(1);
        x.cut(2);
        due("share", x.share(10, 0), 2);
        dueRow("made off, not parted", x, 0, 8, 0, 0);
        due("v -1", x.share(-1, 0), BAD);
        due("v 61", x.share(61, 0), BAD);
        due("row 6", x.share(1, 6), BAD);
        due("row -1", x.share(1, -1), BAD);
        due("no ropes", new LawRigging().share(1, 0), STATE);
        due("no ropes, bad", new LawRigging().share(1, 6), BAD);
        x = courtBy("h0p101s100a0000");
        due("a splice above what it holds", x.share(3, 0), 2);
        dueRow("none to it", x, 0, 0, 1);
    }

    private static void byWhatCameOn() {
        LawRigging x = courtBy(SIX);
        fill(x, 0, 6, 3, 9, 4);
        fill(x, 1, 1, 0);
        fill(x, 2);
        fill(x, 3, 5, 99);
        fill(x, 4, 3, 1);
        promise = 31;
        due("who", x.who(0), 1);
        due("who", x.who(1), 61);
        due("who by none", x.who(2), 63);
        due("who", x.who(3), 0);
        due("who", x.who(4), 1 + 16);
        due("who -1", x.who(-1), BAD);
        due("who 6", x.who(6), BAD);
        due("no ropes", rowsWithoutCourt().who(2), 0);
        x.cut(0);
        due("parted too", x.who(0), 1);

        promise = 32;
        due("kinds", x.kinds(0), 1);
        due("kinds", x.kinds(1), 59);
        due("kinds by none", x.kinds(2), 63);
        due("kinds", x.kinds(3), 0);
        due("kinds", x.kinds(4), 1 + 32);
        due("kinds -1", x.kinds(-1), BAD);
        due("kinds 6", x.kinds(6), BAD);
        due("no ropes", rowsWithoutCourt().kinds(2), 63);

        promise = 33;
        due("test", x.test(0), 0);
        due("the one", x.asked(), 1);
        due("test", x.test(1), 3);
        due("by two", x.asked(), 2);
        due("test", x.test(4), 2);
        due("one each", x.asked(), 1);
        due("test of none", x.test(3), NONE);
        due("asked stays", x.asked(), 1);
        due("test -1", x.test(-1), BAD);
        due("test 6", x.test(6), BAD);
        fill(x, 5, 2, 1);
        due("a rope, a running one", x.test(5), 3);
        fill(x, 5, 0, 0, 2, 1, 4, 2);
        due("three pairs", x.kinds(5), 1);
        due("three pairs", x.who(5), 1);
        fill(x, 5, 4, 2, 0, 0, 2, 3);
        due("the last of three pairs", x.kinds(5), 0);
        wrongPairs();
    }

    private static LawRigging rowsWithoutCourt() {
        LawRigging x = new LawRigging();
        x.row(2, 0);
        return x;
    }

    private static void wrongPairs() {
        LawRigging x = new LawRigging();
        int[][] rows = {{1}, {1, 0, 100}, new int[18], {0, 100}, {-1, 0}, new int[16], {99, 99}};
        int[] findings = {5, 5, 5, 3, 3, 0, 0};
        for (int n = 0; n < rows.length; n++) {
            fill(x, 0, rows[n]);
            for (promise = 31; promise <= 33; promise++) {
                int answer = promise == 31 ? x.who(0) : promise == 32 ? x.kinds(0) : x.test(0);
                if (findings[n] == 0) {
                    due("pairs " + n + " are fine", answer == FINDING ? 1 : 0, 0);
                } else {
                    dueFinding("pairs " + n, x, answer, findings[n]);
                }
            }
        }
        promise = 31;
        dueFinding("missing", x, x.who(1), 1);
        promise = 32;
        dueFinding("missing", x, x.kinds(1), 1);
        promise = 33;
        dueFinding("missing", x, x.test(1), 1);
    }

    private static void duels() {
        promise = 34;
        LawRigging x = courtBy("h0s111s111a0000");
        dueTold("none", x, x.duel(0), 0);
        dueTold("neither", x, x.duel(1), 0);
        x = courtBy("h0p111r111a0000");
        dueTold("the first holds none more: not", x, x.duel(1), 0);
        x = courtBy("h0n212r111a0000");
        dueTold("hauling loses", x, x.duel(3), 0);
        x = courtBy("h0p910r111a0000");
        long before = x.digest();
        dueTold("parts the other", x, x.duel(1), 1);
        due("aside", x.digest(), before);
        x = courtBy("h0p920p900p910a0000");
        dueTold("both through", x, x.duel(1), 0);
        x = courtBy("h0r111p901a0000");
        dueTold("the other one by his", x, x.duel(1), -1);
        x.slack(1);
        dueTold("let go he can't", x, x.duel(1), 0);
        x.cut(0);
        dueTold("already", x, x.duel(2), -1);
        x.cut(1);
        dueTold("one each", x, x.duel(2), 0);
        x = courtBy("h0p910r200a0000");
        dueTold("two are too few", x, x.duel(2), 0);
        dueTold("three part it", x, x.duel(3), 1);
        x.frost(1);
        dueTold("in frost two part it", x, x.duel(2), 1);
        x = courtBy("h0p311p321s101a0000");
        dueTold("the one who hauls last would have more", x, x.duel(1), -1);
        x = courtBy("h0p910r111r121p920a0000");
        dueTold("each parts one of the other's", x, x.duel(1), 0);
        due("n -1", x.duel(-1), BAD);
        due("n 4", x.duel(4), BAD);
        due("no ropes", new LawRigging().duel(1), STATE);
        due("no ropes, bad", new LawRigging().duel(4), BAD);
    }

    private static void chances() {
        promise = 35;
        LawRigging x = courtBy("h0r901r901r900a0100a0300a0001a0400");
        long before = x.digest();
        duePart("odds", x, x.odds(0, 0), 1, 1);
        duePart("odds", x, x.odds(0, 3), 3, 4);
        duePart("odds", x, x.odds(0, 12), 0, 1);
        duePart("odds", x, x.odds(1, 6), 1, 4);
        duePart("odds", x, x.odds(1, 5), 49, 144);
        duePart("odds", x, x.odds(2, 4), 1, 3);
        duePart("odds", x, x.odds(2, 12), 1, 1);
        duePart("odds", x, x.odds(3, 1), 0, 1);
        due("aside", x.digest(), before);
        due("act -1", x.odds(-1, 0), BAD);
        due("act 4", x.odds(4, 0), BAD);
        due("p -1", x.odds(0, -1), BAD);
        due("p 13", x.odds(0, 13), BAD);
        due("no court", new LawRigging().odds(0, 0), BAD);
        due("told before stays", x.lower(), 1);

        promise = 36;
        duePart("mid", x, x.mid(0), 2, 1);
        duePart("mid", x, x.mid(6), 1 * 2 + 1 + 2, 4);
        duePart("mid", x, x.mid(12), 1, 1);
        x.cut(0);
        duePart("parted before", x, x.mid(7), 1, 1);
        promise = 35;
        duePart("parted before", x, x.odds(2, 7), 1, 1);
        duePart("parted before", x, x.odds(1, 7), 0, 1);
        promise = 36;
        due("p -1", x.mid(-1), BAD);
        due("p 13", x.mid(13), BAD);
        due("no ropes", new LawRigging().mid(1), STATE);
        due("no ropes, bad", new LawRigging().mid(13), BAD);
        x = courtBy("h0r901r901r901r901r901r901a6300");
        duePart("six", x, x.mid(11), 1, 2985984);
    }

    private static void lots() {
        promise = 37;
        LawRigging x = courtBy("h0n920r930s904a0100a0004");
        // 1: 48271 -> rope 1, 48271 / 8 % 8 = 1, haul by 1 + 754 % 4 = 3
        due("lots", x.lots(1, 1), 0);
        due("haul by 3", detail(x, 1, 3), 3);
        due("strains", x.count(7), 4 + 3);
        due("deeds", x.count(2), 1);
        // 182605794 -> rope 0, 22825724 % 8 = 4, haul by 1 + 2853215 % 4 = 4
        due("lots", x.lots(1, 48271), 1);
        due("haul by 4", detail(x, 0, 3), 4);
        due("moved", detail(x, 2, 3), 4 + 3);
        x = courtBy("h0n920r930s904a0100a0004");
        due("both at once", x.lots(2, 1), 1);
        due("as one by one", x.count(7), 4 + 3 + 4 + 3);
        due("two deeds", x.undo(1), 1);
        due("seed 0", x.lots(1, 0), BAD);
        due("seed -1", x.lots(1, -1), BAD);
        due("seed above", x.lots(1, 2147483647), BAD);
        due("seed most", x.lots(1, 2147483646) >= 0 ? 1 : 0, 1);
        due("n 0", x.lots(0, 1), BAD);
        due("n 21", x.lots(21, 1), BAD);
        due("n 20", x.lots(20, 1) >= 0 ? 1 : 0, 1);
        due("no ropes", new LawRigging().lots(1, 1), STATE);
        due("no ropes, bad", new LawRigging().lots(1, 0), BAD);
        lotsOfEachSort();
    }

    /** The seed whose first number is the one wanted. */
    private static int seedOf(long number) {
        for (long wraps = 0; wraps < 48271; wraps++) {
            if ((number + wraps * 2147483647L) % 48271 == 0) {
                return (int) ((number + wraps * 2147483647L) / 48271);
            }
        }
        return 0;
    }

    private static void lotsOfEachSort() {
        LawRigging x = courtBy("h0r901a0100");
        due("5: let go", x.lots(1, seedOf(5 * 8)), 0);
        due("let go", x.count(5), 1);
        due("0: none to haul", x.lots(1, seedOf(64)), 0);
        due("a deed all the same", x.count(2), 2);
        due("5: made off", x.lots(1, seedOf(5 * 8 + 3)), 0);
        due("made off", x.count(5), 0);
        due("6: not parted", x.lots(1, seedOf(6 * 8 + 64)), 0);
        due("as it was", x.count(6), 0);
        due("7: frost", x.lots(1, seedOf(7 * 8)), 0);
        due("frost", x.count(3), 1);
        due("haul in frost", x.lots(1, seedOf(64 + 8)), 1);
        due("by 2 and 1", x.count(7), 3);
        due("7: frost goes", x.lots(1, seedOf(7 * 8)), 1);
        due("frost gone", x.count(3), 0);
        x.cut(0);
        due("5: parted", x.lots(1, seedOf(5 * 8)), 0);
        due("not let go", x.count(5), 0);
        due("haul parted", x.lots(1, seedOf(3 * 64)), 0);
        due("6: spliced", x.lots(1, seedOf(6 * 8)), 0);
        due("spliced", x.count(6), 0);
        due("4: haul by 4", x.lots(1, seedOf(4 * 8 + 3 * 64)), 1);
        due("by 4", x.count(7), 4);
        due("deeds", x.count(2), 12);
        due("0: haul by 1", x.lots(1, seedOf(100 * 64)), 1);
        due("by 1", x.count(7), 5);
    }

    private static void whatIsTold() {
        promise = 38;
        LawRigging x = new LawRigging();
        due("asked before", x.asked(), 0);
        x.row(0, 2);
        x.lay(0, 0, 3);
        x.at(0, 0);
        due("asked", x.asked(), 3);
        x.at(0, 2);
        x.at(6, 0);
        x.rope(0, 0);
        due("what is refused tells nothing", x.asked(), 3);
        x.mean(0);
        due("mean", x.asked(), 1);

        promise = 39;
        due("upper before", x.upper(), 0);
        promise = 40;
        due("lower before", x.lower(), 1);
        x = courtBy("h0r901a0100");
        x.odds(0, 2);
        due("lower", x.lower(), 6);
        x.odds(0, 13);
        x.odds(1, 0);
        promise = 39;
        due("upper stays", x.upper(), 5);
        counts();
        findings();
    }

    private static void counts() {
        promise = 41;
        LawRigging x = courtBy("h1s411t520n922w933p900r900a0000a0000a0000");
        x.row(0, 0);
        x.row(5, 3);
        x.row(5, 4);
        x.text(2, 0);
        x.text(3, 0);
        x.keep(0);
        x.keep(2);
        x.slack(2);
        x.cut(3);
        int[] due = {6, 3, 2, 1, 1, 4, 8, 1, 2, 2, 2, 3, 2};
        for (int what = 0; what <= 12; what++) {
            due("count(" + what + ")", x.count(what), due[what]);
        }
        due("count -1", x.count(-1), BAD);
        due("count 13", x.count(13), BAD);
    }

    private static void findings() {
        LawRigging x = new LawRigging();
        promise = 42;
        due("none before", x.finding(), 0);
        x.at(0, 0);
        x.row(0, -1);
        due("latest", x.finding(), 5);
        x.row(0, 41);
        x.row(0, 0);
        due("stays", x.finding(), 5);
        x.at(0, 0);
        due("latest", x.finding(), 2);

        promise = 43;
        x.mean(0);
        x.mean(0);
        x.mean(1);
        int[] due = {BAD, 2, 1, 0, 2, 1, BAD};
        for (int f = 0; f < due.length; f++) {
            due("findings(" + f + ")", x.findings(f), due[f]);
        }
        due("findings -1", x.findings(-1), BAD);
        due("finding stays by these", x.finding(), 1);
    }

    private static void digests() {
        promise = 44;
        LawRigging x = new LawRigging();
        long h = 17;
        for (int what = 0; what <= 12; what++) {
            h = 31 * h;
        }
        for (int missing = 0; missing < 3 + 6 + 4; missing++) {
            h = 31 * h - 1;
        }
        due("new", x.digest(), h);
        x = courtBy("h1n412r201a0102a0001");
        x.haul(0, 1);
        x.keep(1);
        x.row(2, 2);
        x.lay(2, 1, -7);
        x.text(3, 1);
        x.put(3, 0, -100);
        x.rope(0, 1);
        int[] told = {2, 2, 1, 1, 3, 0, 0, 6, 0, 1, 1, 2, 1,
            3, 4, 1, 4, 1, 0, 0, 2, 0, 2, 1, 0,
            0, 0, -1, 1, -1, -1, -1, 2, 0, -7, -1, -1, -1, 20};
        h = 17;
        for (int v : told) {
            h = 31 * h + v;
        }
        String signs = "h1n412r201a0102a0001";
        for (int i = 0; i < signs.length(); i++) {
            h = 31 * h + signs.charAt(i);
        }
        int[] texts = {-1, -1, 1, -100};
        for (int v : texts) {
            h = 31 * h + v;
        }
        due("digest", x.digest(), h);
        due("asked stays", x.asked(), 4);
        x = courtBy("h0r110r120a0001");
        due("the acts' order, a rope that moves none", x.digest(), digestOfTwoRopes());
    }

    private static long digestOfTwoRopes() {
        int[] told = {2, 1, 0, 0, 0, 0, 0, 0, 0, 0, 0, 1, 0,
            0, 1, 1, 0, 1, 0, 0, 1, NONE, 0, 1, 0,
            1, -1, -1, -1, -1, -1, -1, -1, -1, -1, 15};
        long h = 17;
        for (int v : told) {
            h = 31 * h + v;
        }
        String signs = "h0r110r120a0001";
        for (int i = 0; i < signs.length(); i++) {
            h = 31 * h + signs.charAt(i);
        }
        return ((31 * h - 1) * 31 - 1) * 31 - 1;
    }
}
