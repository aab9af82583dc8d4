/**
 * The promises one by one: ordinary inputs, the edges that the document names, and wrong inputs.
 * What is due here was worked out by hand from the document.
 */
public final class PromiseTest {
    private static final int BAD = -1000000001, NO = -1000000002, FULL = -1000000003, NONE = -1000000005,
            NOTHING = -1000000011, KIND = -1000000012, INDEX = -1000000013, SIZE = -1000000014;
    private static final int MIN = Integer.MIN_VALUE, MAX = Integer.MAX_VALUE;
    private static int wrong = 0;
    private static int calls = 0;

    public static void main(String[] args) {
        newObject();
        voter();
        told();
        votesOfPlain();
        votesOfLoyal();
        votesOfWhip();
        votesOfSwayed();
        votesOfSick();
        as();
        turns();
        set();
        rule();
        again();
        deal();
        seed();
        rounds();
        roundDraws();
        lastDay();
        conclave();
        runners();
        smoke();
        butOne();
        decides();
        splits();
        behind();
        ends();
        won();
        party();
        smokes();
        fits();
        fee();
        fine();
        feed();
        trim();
        textFaults();
        textDepths();
        textValues();
        textNumbers();
        why();
        sheet();
        mark();
        pour();
        reads();
        copy();
        lay();
        ask();
        item();
        rest();
        tell();
        check();
        checkOnLastDays();
        images();
        imageTexts();
        count();
        System.out.println(calls + " answers looked at, " + wrong + " wrong");
        System.exit(wrong == 0 ? 0 : 1);
    }

    private static void due(String what, int got, int want) {
        calls++;
        if (got != want) {
            wrong++;
            System.out.println(what + " answered " + got + ", due is " + want);
        }
    }

    /** The z behind so many draws. */
    private static int drawn(int z, int times) {
        int after = z;
        for (int i = 0; i < times; i++) {
            after = after * 1103515245 + 12345;
        }
        return after;
    }

    /** Plain voters, each of which likes the one given. */
    private static SmokeVotes liking(int... likes) {
        SmokeVotes x = new SmokeVotes();
        for (int like : likes) {
            x.voter(0, like, 0, 0);
        }
        return x;
    }

    /** Two that like themselves alone: nobody is ever chosen. */
    private static SmokeVotes atOdds() {
        return liking(0, 1);
    }

    /** Ten of one party, all for the first one from the first round on. */
    private static SmokeVotes tenLoyal() {
        SmokeVotes x = new SmokeVotes();
        for (int i = 0; i < 10; i++) {
            x.voter(1, 9, 0, 0);
        }
        return x;
    }

    private static void feedAll(SmokeVotes x, String text) {
        x.trim(0);
        for (int i = 0; i < text.length(); i += 12) {
            int[] three = new int[3];
            for (int k = 0; k < 12; k++) {
                int b = i + k < text.length() ? text.charAt(i + k) : 32;
                three[k / 4] = three[k / 4] << 8 | b;
            }
            x.feed(three[0], three[1], three[2]);
        }
        x.trim(text.length());
    }

    private static int tellText(SmokeVotes x, String text) {
        feedAll(x, text);
        return x.text();
    }

    // ---- 1

    private static void newObject() {
        SmokeVotes x = new SmokeVotes();
        int[] counts = {0, 0, 0, 0, 50, 10, 0, 0, 0, 1};
        for (int i = 0; i < counts.length; i++) {
            due("new count " + i, x.count(i), counts[i]);
        }
        int[] parts = {-1, 0, 3, 0, 0, NONE};
        for (int i = 0; i < parts.length; i++) {
            due("new conclave " + i, x.conclave(i), parts[i]);
        }
        for (int i = 0; i < 4; i++) {
            due("new sheet " + i, x.reads(i), NOTHING);
        }
        for (int i = 0; i < 5; i++) {
            due("new slot " + i, x.ask(i, 0), NOTHING);
        }
        for (int i = 0; i < 3; i++) {
            due("new why " + i, x.why(i), NONE);
        }
        due("new back", x.back(), NO);
        due("new fee", x.fee(), 0);
        due("new told", x.told(0, 0), BAD);
    }

    // ---- 2

    private static void voter() {
        SmokeVotes x = new SmokeVotes();
        int[][] bad = {{-1, 0, 0, 0}, {6, 0, 0, 0}, {0, -1, 0, 0}, {0, 10, 0, 0}, {0, 0, -1, 0}, {0, 0, 4, 0},
            {0, 0, 0, -1}, {0, 0, 0, 100}, {MIN, 0, 0, 0}, {0, MAX, 0, 0}};
        for (int[] b : bad) {
            due("voter bad", x.voter(b[0], b[1], b[2], b[3]), BAD);
        }
        due("no voter yet", x.count(0), 0);
        for (int i = 0; i < 10; i++) {
            due("voter " + i, x.voter(i % 6, 9, 3, 99), i);
        }
        due("voter full", x.voter(0, 0, 0, 0), FULL);
        due("voter bad ahead of full", x.voter(6, 0, 0, 0), BAD);
        due("still ten", x.count(0), 10);
    }

    // ---- 3

    private static void told() {
        SmokeVotes x = new SmokeVotes();
        x.voter(2, 7, 3, 61);
        int[] parts = {2, 7, 3, 61, 3, -1, 0, 0, 1, 38};
        for (int i = 0; i < parts.length; i++) {
            due("told " + i, x.told(0, i), parts[i]);
        }
        due("told what", x.told(0, 10), BAD);
        due("told what below", x.told(0, -1), BAD);
        due("told voter", x.told(1, 0), BAD);
        due("told voter below", x.told(-1, 0), BAD);
        int[] worths = {40, 46, 59, 92, 51, 2};
        int[] weights = {1, 1, 1, 1, 1, 2};
        for (int kind = 0; kind < 6; kind++) {
            SmokeVotes y = new SmokeVotes();
            y.voter(kind, 0, 0, 40);
            due("counts of kind " + kind, y.told(0, 8), weights[kind]);
            due("worth of kind " + kind, y.told(0, 9), worths[kind]);
        }
        SmokeVotes z = liking(1, 1, 2, 3);
        z.turns(0, 5);
        z.rounds(1);
        due("a straw vote counts twice", z.told(1, 6), 3);
        z.turns(0, 0);
        due("HAS is what the votes count now", z.told(1, 6), 2);
    }

    private static void votesOfPlain() {
        SmokeVotes x = liking(3, 9, 0);
        due("likes one that is not there: the least of none", x.told(1, 7), 0);
        due("likes one that is not there yet", x.told(0, 7), 0);
        x.voter(5, 3, 0, 0);
        due("likes one that came", x.told(0, 7), 3);
        due("a straw votes as a voter", x.told(3, 7), 3);
        x.rounds(1);
        due("likes nobody there: the one with the most", x.told(1, 7), 3);
    }

    private static void votesOfLoyal() {
        SmokeVotes x = new SmokeVotes();
        x.voter(0, 2, 0, 0);
        x.voter(1, 0, 1, 0);
        x.voter(0, 2, 1, 0);
        x.voter(0, 0, 2, 0);
        x.voter(0, 0, 2, 0);
        due("loyal: none has anything, the least of its party", x.told(1, 7), 1);
        x.rounds(1);
        due("loyal: the most of its party", x.told(1, 7), 2);
        SmokeVotes y = new SmokeVotes();
        y.voter(0, 0, 0, 0);
        y.voter(0, 1, 0, 0);
        y.voter(1, 1, 3, 0);
        y.voter(0, 0, 0, 0);
        y.voter(0, 1, 0, 0);
        y.voter(0, 0, 0, 0);
        y.rule(2, 1);
        y.rounds(1);
        due("two run", y.conclave(4), 3);
        due("loyal: no runner of its party, as a voter", y.told(2, 7), 1);
        y.set(2, 1, 4);
        due("loyal: no runner at all, the one with the most", y.told(2, 7), 0);
    }

    private static void votesOfWhip() {
        SmokeVotes x = new SmokeVotes();
        x.voter(0, 0, 1, 0);
        x.voter(3, 0, 1, 50);
        x.voter(0, 0, 2, 0);
        x.voter(0, 2, 2, 0);
        x.voter(0, 2, 2, 0);
        x.voter(0, 3, 2, 0);
        due("whip of faith 50: itself", x.told(1, 7), 1);
        x.set(1, 3, 49);
        due("whip of faith 49: as loyal", x.told(1, 7), 0);
        x.set(1, 3, 99);
        x.rule(2, 1);
        x.rounds(1);
        due("the two with the most run", x.conclave(4), 5);
        due("whip that does not run: as loyal", x.told(1, 7), 0);
    }

    private static void votesOfSwayed() {
        SmokeVotes x = liking(0, 0, 2, 3);
        x.turns(3, 2);
        x.set(3, 3, 19);
        x.rounds(1);
        due("swayed: 2 is more than 1", x.told(3, 7), 0);
        x.set(3, 3, 20);
        due("swayed: 2 is not more than 2", x.told(3, 7), 3);
        tellText(x, "sway 1");
        due("swayed by a text", x.told(3, 7), 0);
        tellText(x, "sway 2");
        due("swayed by a later text", x.told(3, 7), 3);
        tellText(x, "sway 0 - 5000");
        due("what sway gives is 0 at least", x.told(3, 7), 0);
        x.set(3, 1, 2);
        SmokeVotes y = liking(1, 0, 2);
        y.turns(2, 2);
        y.rounds(1);
        tellText(y, "sway 0 - 1");
        due("1 is more than 0", y.told(2, 7), 0);
        x.set(3, 1, 3);
        tellText(x, "sway f * 0 + r");
        due("sway by rounds", x.told(3, 7), 0);
        tellText(x, "sway p + 1");
        due("sway by party", x.told(3, 7), 0);
        x.set(3, 2, 1);
        due("sway by another party", x.told(3, 7), 3);
        tellText(x, "sway f - 19");
        due("sway by faith", x.told(3, 7), 0);
        x.again();
        tellText(x, "sway 0 - 1");
        due("0 is not more than 0", x.told(3, 7), 3);
    }

    private static void votesOfSick() {
        SmokeVotes x = liking(0, 0, 2, 3);
        x.turns(3, 4);
        x.set(3, 3, 99);
        due("sick ahead of round 1", x.told(3, 7), 3);
        x.rounds(1);
        due("sick behind round 1", x.told(3, 7), -1);
        due("sick voted in round 1", x.told(3, 5), 3);
        x.rounds(1);
        due("sick voted in round 2", x.told(3, 5), -1);
        due("nobody's vote counts for nobody", x.told(3, 6), 0);
        x.set(3, 3, 0);
        due("sick behind round 2, as swayed", x.told(3, 7), 0);
    }

    // ---- 4

    private static void as() {
        boolean[][] under = {{true, false, false, false, false, false}, {true, true, false, false, false, false},
            {true, false, true, false, false, false}, {true, true, false, true, false, false},
            {true, false, true, false, true, false}, {true, false, false, false, false, true}};
        for (int kind = 0; kind < 6; kind++) {
            SmokeVotes x = new SmokeVotes();
            x.voter(kind, 0, 0, 33);
            x.lay(0, 1, 0);
            int worth = x.told(0, 9);
            for (int other = 0; other < 6; other++) {
                due(kind + " as " + other, x.as(0, other), under[kind][other] ? 33 : KIND);
                due(kind + " asked as " + other, x.ask(0, other), under[kind][other] ? worth : KIND);
            }
            due("as kind 6", x.as(0, 6), BAD);
            due("as kind -1", x.as(0, -1), BAD);
            due("as voter 1", x.as(1, 0), BAD);
        }
    }

    // ---- 5

    private static void turns() {
        SmokeVotes x = liking(0);
        due("turns to 4", x.turns(0, 4), 0);
        due("turns to 5", x.turns(0, 5), 4);
        due("is 5", x.told(0, 0), 5);
        due("turns to 6", x.turns(0, 6), BAD);
        due("turns to -1", x.turns(0, -1), BAD);
        due("turns voter 1", x.turns(1, 0), BAD);
        due("is 5 still", x.told(0, 0), 5);
    }

    // ---- 6

    private static void set() {
        SmokeVotes x = liking(0);
        int[] most = {0, 9, 3, 99, 9};
        int[] first = {0, 0, 0, 0, 3};
        for (int what = 1; what < 5; what++) {
            due("set most " + what, x.set(0, what, most[what]), first[what]);
            due("set above " + what, x.set(0, what, most[what] + 1), BAD);
            due("set below " + what, x.set(0, what, -1), BAD);
            due("stands " + what, x.told(0, what), most[what]);
            due("set 0 " + what, x.set(0, what, 0), most[what]);
        }
        due("set what 0", x.set(0, 0, 0), BAD);
        due("set what 5", x.set(0, 5, 0), BAD);
        due("set voter 1", x.set(1, 1, 0), BAD);
        due("set voter -1", x.set(-1, 1, 0), BAD);
    }

    // ---- 7

    private static void rule() {
        SmokeVotes x = new SmokeVotes();
        int[] first = {0, 50, 10};
        for (int what = 0; what < 3; what++) {
            int least = what == 2 ? 1 : 0;
            due("rule 99 " + what, x.rule(what, 99), first[what]);
            due("rule 100 " + what, x.rule(what, 100), BAD);
            due("rule below " + what, x.rule(what, least - 1), BAD);
            due("rule least " + what, x.rule(what, least), 99);
            due("rule stands " + what, x.count(3 + what), least);
        }
        due("rule what 3", x.rule(3, 1), BAD);
        due("rule what -1", x.rule(-1, 1), BAD);
    }

    // ---- 8

    private static void again() {
        SmokeVotes x = liking(0, 0, 0);
        x.rounds(3);
        int wind = x.conclave(3);
        int wet = x.told(0, 4);
        due("chosen", x.conclave(0), 0);
        due("again", x.again(), 1);
        due("again chosen", x.conclave(0), -1);
        due("again rounds", x.count(2), 0);
        due("again smoke", x.conclave(2), 3);
        due("again voted", x.told(1, 5), -1);
        due("again has", x.told(0, 6), 0);
        due("again wind stays", x.conclave(3), wind);
        due("again wet stays", x.told(0, 4), wet);
        due("again day stays", x.count(1), 3);
        due("again once more", x.again(), 0);
    }

    // ---- 9

    private static void deal() {
        SmokeVotes x = new SmokeVotes();
        x.seed(77);
        due("deal 3", x.deal(3), 3);
        int[] by = {6, 10, 4, 100};
        for (int v = 0; v < 3; v++) {
            for (int part = 0; part < 4; part++) {
                int gives = drawn(77, 4 * v + part + 1) >>> 8;
                due("dealt " + v + " " + part, x.told(v, part), gives % by[part]);
            }
            due("dealt wet", x.told(v, 4), 3);
            due("dealt voted", x.told(v, 5), -1);
        }
        due("deal 0", x.deal(0), BAD);
        due("deal 11", x.deal(11), BAD);
        due("deal 10", x.deal(10), 7);
        due("no draws for others", x.count(9), drawn(77, 40));
        due("deal none", x.deal(1), 0);
        due("no draw", x.count(9), drawn(77, 40));
    }

    // ---- 10

    private static void seed() {
        SmokeVotes x = new SmokeVotes();
        due("seed", x.seed(MIN), 1);
        due("seed again", x.seed(5), MIN);
        due("z", x.count(9), 5);
    }

    // ---- 11

    private static void rounds() {
        SmokeVotes x = new SmokeVotes();
        due("rounds 0", x.rounds(0), BAD);
        due("rounds 101", x.rounds(101), BAD);
        due("rounds -1", x.rounds(-1), BAD);
        due("rounds of nobody", x.rounds(100), -1);
        due("days of nobody", x.count(1), 100);
        due("no rounds of nobody", x.count(2), 0);
        due("no draws of nobody", x.count(9), 1);
        x.voter(0, 1, 0, 0);
        x.voter(0, 1, 0, 0);
        x.voter(0, 0, 0, 0);
        due("two of three are wanted", x.conclave(1), 2);
        due("rounds 5", x.rounds(5), 1);
        due("one round was enough", x.count(2), 1);
        due("days go on", x.count(1), 105);
        int z = x.count(9);
        due("rounds when somebody is chosen", x.rounds(2), 1);
        due("no draws then", x.count(9), z);
    }

    private static void roundDraws() {
        SmokeVotes x = liking(0, 0, 2, 3);
        x.turns(1, 4);
        x.set(1, 3, 99);
        x.rounds(1);
        due("wind", x.conclave(3), (drawn(1, 1) >>> 8) % 4);
        for (int v = 0; v < 4; v++) {
            due("wet " + v, x.told(v, 4), (drawn(1, v + 2) >>> 8) % 10);
        }
        int wet = x.told(1, 4);
        x.rounds(1);
        due("no draw for one that voted for nobody", x.count(9), drawn(1, 9));
        due("its wet stays", x.told(1, 4), wet);
        due("the next one's draw", x.told(2, 4), (drawn(1, 8) >>> 8) % 10);
    }

    private static void lastDay() {
        SmokeVotes x = atOdds();
        for (int i = 0; i < 99; i++) {
            x.rounds(100);
        }
        x.rounds(98);
        due("day 9998", x.count(1), 9998);
        due("rounds 9998", x.count(2), 9998);
        due("rounds up to 9999", x.rounds(50), -1);
        due("day 9999", x.count(1), 9999);
        due("rounds 9999", x.count(2), 9999);
        int z = x.count(9);
        due("no more rounds", x.rounds(1), -1);
        due("day 9999 still", x.count(1), 9999);
        due("z 9999 still", x.count(9), z);
        x.set(1, 1, 0);
        x.again();
        due("thoughts have no such bound", x.behind(1, 0), 0);
        due("ends has no such bound", x.ends(), 1);
    }

    // ---- 12

    private static void conclave() {
        due("conclave 6", atOdds().conclave(6), BAD);
        due("conclave -1", atOdds().conclave(-1), BAD);
        int[] wanted = {0, 1, 2, 2, 3, 4, 4, 5, 6, 6, 7};
        for (int n = 0; n <= 10; n++) {
            due("wanted of " + n, liking(new int[n]).conclave(1), wanted[n]);
        }
        SmokeVotes x = liking(0, 1);
        x.turns(1, 5);
        due("wanted with a straw", x.conclave(1), 2);
        x.rounds(1);
        due("a straw chooses itself", x.conclave(0), 1);
        SmokeVotes y = liking(2, 1, 2, 1, 4);
        due("nobody has anything", y.conclave(5), NONE);
        y.rounds(1);
        due("the one with the most, of several the least", y.conclave(5), 1);
    }

    private static void runners() {
        SmokeVotes x = liking(1, 1, 2, 2, 3, 3);
        x.rule(2, 1);
        due("nobody has anything: all run", x.conclave(4), 63);
        x.rounds(1);
        due("of three with the same the least two", x.conclave(4), 6);
        due("likes one that does not run", x.told(4, 7), 1);
        due("likes the second", x.told(2, 7), 2);
        due("chosen of two", x.rounds(1), 1);
        x.again();
        x.rule(2, 2);
        x.rounds(1);
        due("fewer rounds than RUN: all run", x.conclave(4), 63);
        SmokeVotes y = liking(0, 1);
        y.turns(1, 4);
        y.set(1, 3, 99);
        y.rule(2, 2);
        y.rounds(2);
        due("but one has anything: one runs", y.conclave(4), 1);
        due("and is chosen", y.rounds(1), 0);
    }

    private static void smoke() {
        int[][] rows = {{3, 0, 1}, {4, 0, 2}, {18, 0, 2}, {19, 0, 3}, {0, 99, 1}, {99, 99, 3}, {12, 99, 1}, {13, 99, 2},
            {4, 9, 2}, {4, 10, 1}};
        for (int[] row : rows) {
            SmokeVotes x = atOdds();
            x.rule(0, row[0]);
            x.rule(1, row[1]);
            x.rounds(1);
            due("smoke of resin " + row[0] + " and draft " + row[1], x.conclave(2), row[2]);
            x.rule(0, 0);
            x.set(0, 4, 9);
            due("it stays the smoke of that round", x.conclave(2), row[2]);
        }
        SmokeVotes x = liking(0, 0);
        x.rule(0, 99);
        x.rounds(1);
        due("white, however damp", x.conclave(2), 0);
        SmokeVotes ten = liking(0, 1, 2, 3, 4, 5, 6, 7, 8, 9);
        due("ten at odds", ten.rounds(1), -1);
        due("black: 30 less 5", ten.conclave(2), 3);
        SmokeVotes y = liking(0, 0, 2, 3);
        y.turns(3, 4);
        y.set(3, 3, 99);
        y.rounds(1);
        y.rule(1, 0);
        for (int v = 0; v < 4; v++) {
            y.set(v, 4, 3);
        }
        y.set(3, 4, 9);
        y.rounds(1);
        due("the paper of one that votes for nobody is not burnt", y.conclave(2), 1);
    }

    // ---- 13, 14

    private static void butOne() {
        due("nobody there", new SmokeVotes().butOne(), 0);
        SmokeVotes x = liking(1, 1, 2, 2);
        due("none has anything", x.butOne(), 0);
        x.rounds(1);
        due("two lack but one", x.butOne(), 6);
        SmokeVotes y = liking(1, 1, 1, 2);
        y.rounds(1);
        due("one has what is wanted", y.butOne(), 0);
        due("a single voter lacks its own vote", liking(0).butOne(), 1);
    }

    private static void decides() {
        SmokeVotes x = liking(1, 1, 2);
        due("no round yet", x.decides(), 0);
        x.rounds(1);
        due("both that voted for it", x.decides(), 3);
        SmokeVotes y = liking(1, 1, 1);
        y.rounds(1);
        due("one more than wanted: none decides", y.decides(), 0);
        SmokeVotes z = liking(1, 1, 1);
        z.turns(0, 5);
        z.rounds(1);
        due("one more than wanted: a straw decides", z.decides(), 1);
        SmokeVotes w = liking(1, 1, 2, 2);
        w.rounds(1);
        due("nobody is chosen: none decides", w.decides(), 0);
        SmokeVotes ten = tenLoyal();
        ten.rounds(1);
        due("all ten are needed by none", ten.decides(), 0);
        due("none of ten lacks but one", ten.butOne(), 0);
    }

    // ---- 15

    private static void splits() {
        due("splits of 0", new SmokeVotes().splits(0, 1), 0);
        due("splits of 3 among 3", new SmokeVotes().splits(3, 3), 1);
        due("splits of 3 among 6", new SmokeVotes().splits(3, 6), 20);
        due("splits of 2 among 2", new SmokeVotes().splits(2, 2), 1);
        due("splits of 4 among 2", new SmokeVotes().splits(4, 2), 1);
        due("splits of 5 among 2", new SmokeVotes().splits(5, 2), 2);
        due("splits of 12 among 1", new SmokeVotes().splits(12, 1), 0);
        due("splits of 12 among 2", new SmokeVotes().splits(12, 2), 3);
        SmokeVotes x = new SmokeVotes();
        for (int times = 0; times < 3; times++) {
            due("splits of 12 among 2, again", x.splits(12, 2), 3);
            due("splits of 0, again", x.splits(0, 6), 0);
        }
        int[][] bad = {{-1, 1}, {13, 1}, {1, 0}, {1, 7}, {MIN, MAX}};
        for (int[] b : bad) {
            due("splits bad", new SmokeVotes().splits(b[0], b[1]), BAD);
        }
    }

    // ---- 16, 17

    private static void behind() {
        SmokeVotes x = liking(1, 1, 2, 2, 3, 3);
        x.rule(2, 1);
        due("behind 0 chosen", x.behind(0, 0), -1);
        due("behind 0 most", x.behind(0, 1), 0);
        due("behind 0 smoke", x.behind(0, 2), 3);
        due("behind 0 voted", x.behind(0, 3), -1);
        due("behind 1 chosen", x.behind(1, 0), -1);
        due("behind 1 most", x.behind(1, 1), 2);
        due("behind 1 smoke", x.behind(1, 2), 2);
        due("behind 1 voted", x.behind(1, 8), 3);
        due("behind 2 chosen", x.behind(2, 0), 1);
        due("behind 2 most", x.behind(2, 1), 4);
        due("behind 2 smoke", x.behind(2, 2), 0);
        due("behind 2 voted", x.behind(2, 8), 1);
        due("behind 100 voted", x.behind(100, 5), 2);
        due("behind no voter", x.behind(1, 9), BAD);
        due("behind what -1", x.behind(1, -1), BAD);
        due("behind what min", x.behind(1, MIN), BAD);
        due("behind what max", x.behind(1, MAX), BAD);
        due("behind 101", x.behind(101, 0), BAD);
        due("behind -1", x.behind(-1, 0), BAD);
        due("ends", x.ends(), 2);
        due("only thought: rounds", x.count(2), 0);
        due("only thought: z", x.count(9), 1);
        due("only thought: day", x.count(1), 0);
        due("only thought: wet", x.told(0, 4), 3);
        due("nobody behind nobody", new SmokeVotes().behind(1, 3), BAD);
        due("most of nobody", new SmokeVotes().behind(1, 1), 0);
    }

    private static void ends() {
        SmokeVotes x = liking(1, 1, 2, 2, 3, 3);
        x.rule(2, 99);
        due("two run from 99 on: behind 100", x.ends(), 100);
        SmokeVotes y = atOdds();
        due("at odds for ever", y.ends(), NONE);
        y.set(0, 1, 1);
        due("behind one", y.ends(), 1);
        y.rounds(1);
        due("behind none", y.ends(), 0);
    }

    // ---- 18, 19

    private static void won() {
        SmokeVotes x = liking(2, 1, 2, 1, 4);
        due("the least that brings one more", x.won(1, 1, 0), 0);
        due("what it has then", x.won(1, 1, 1), 3);
        due("its own voters bring nothing", x.won(1, 2, 0), 1);
        due("it may be itself", liking(1, 1).won(1, 0, 0), 0);
        due("the first that helps is not the first of all", liking(0, 0, 1, 1).won(1, 0, 0), 2);
        due("one of ten", tenLoyal().won(40, 9, 1), 0);
        due("the least of ten", tenLoyal().won(40, 9, 0), 0);
        due("of several the least, though none helps", liking(0, 0).won(1, 0, 0), 0);
        due("all are for it", liking(0, 0).won(1, 0, 1), 2);
        due("likes stay", x.told(0, 1), 2);
        int[][] bad = {{0, 0, 0}, {41, 0, 0}, {1, 5, 0}, {1, -1, 0}, {1, 0, 2}, {1, 0, -1}};
        for (int[] b : bad) {
            due("won bad", x.won(b[0], b[1], b[2]), BAD);
        }
        due("won of nobody", new SmokeVotes().won(1, 0, 0), BAD);
        due("won for 40", x.won(40, 1, 1) > 0 ? 1 : 0, 1);
    }

    private static void party() {
        SmokeVotes x = new SmokeVotes();
        x.voter(0, 1, 1, 0);
        x.voter(3, 0, 1, 0);
        x.voter(0, 2, 2, 0);
        due("without a told party nobody is chosen", x.behind(1, 0), -1);
        due("told, its whip stands by itself", x.party(1), 1);
        due("faith stays", x.told(1, 3), 0);
        SmokeVotes y = new SmokeVotes();
        y.voter(3, 0, 0, 0);
        y.voter(3, 0, 0, 0);
        y.voter(0, 2, 1, 0);
        due("without a told party its first one is chosen", y.behind(1, 0), 0);
        due("told, its whips fall out; another told party leaves none of its own", y.party(1), NONE);
        y.rounds(1);
        due("somebody is chosen: the party of that one", y.party(40), 0);
        due("party 0", x.party(0), BAD);
        due("party 41", x.party(41), BAD);
        due("at odds", atOdds().party(40), NONE);
        SmokeVotes w = liking(0, 1, 1, 1, 4);
        w.turns(0, 2);
        w.set(0, 2, 1);
        w.set(1, 2, 1);
        due("without a told party the swayed one brings it about", w.behind(2, 0), 1);
        due("told, it stands firm", w.party(2), NONE);
        due("ten of one party", tenLoyal().party(40), 0);
        due("nobody", new SmokeVotes().party(1), NONE);
    }

    // ---- 20, 21

    private static void smokes() {
        SmokeVotes x = liking(1, 1, 2, 2, 3, 3);
        x.rule(2, 1);
        due("dark, then white", x.smokes(2), 8);
        due("dark", x.smokes(1), 2);
        due("and white from then on", x.smokes(4), 128);
        x.rule(0, 99);
        due("black, then white", x.smokes(12), 3 << 22);
        due("smokes 0", x.smokes(0), BAD);
        due("smokes 13", x.smokes(13), BAD);
        x.rounds(2);
        due("white as it was", x.smokes(3), 0);
        due("rounds stay", x.count(2), 2);
    }

    private static void fits() {
        SmokeVotes x = liking(1, 1, 2, 2, 3, 3);
        x.rule(0, 99);
        x.sheet(0, 1, 9);
        for (int place = 0; place < 9; place++) {
            x.mark(0, place, place < 5 ? 3 : 0);
        }
        due("black five times: RUN 5", x.fits(0, 0), 5);
        due("nothing differs", x.fits(0, 1), 0);
        x.mark(0, 5, NONE);
        due("a place without a number may be either: the least", x.fits(0, 0), 5);
        x.mark(0, 4, NONE);
        due("two places without numbers: the least", x.fits(0, 0), 4);
        due("nothing differs still", x.fits(0, 1), 0);
        x.mark(0, 0, -7);
        due("signs left out", x.fits(0, 1), 10);
        due("RUN stays", x.count(5), 10);
        x.sheet(1, 0, 0);
        due("no places: the least", x.fits(1, 0), 1);
        due("no places: no differences", x.fits(1, 1), 0);
        due("missing", x.fits(2, 0), NOTHING);
        due("bad ahead of missing", x.fits(2, 2), BAD);
        due("what -1", x.fits(0, -1), BAD);
        due("sheet 4", x.fits(4, 0), BAD);
        due("sheet -1", x.fits(-1, 0), BAD);
        x.sheet(3, 0, 24);
        for (int place = 0; place < 24; place++) {
            x.mark(3, place, 3);
        }
        due("RUN 20 is the most", x.fits(3, 0), 20);
        due("four are white then", x.fits(3, 1), 12);
        for (int run = 1; run <= 3; run++) {
            for (int place = 0; place < 24; place++) {
                x.mark(3, place, place < run ? 3 : 0);
            }
            due("RUN " + run, x.fits(3, 0), run);
            due("RUN " + run + " fits", x.fits(3, 1), 0);
        }
    }

    // ---- 22, 23

    private static void fee() {
        SmokeVotes x = atOdds();
        x.rounds(3);
        due("fee without a text", x.fee(), 3);
        tellText(x, "fee r * 10 + w");
        due("fee by a text", x.fee(), 30 + x.conclave(3));
        tellText(x, "fee 7");
        due("fee by the last one", x.fee(), 7);
    }

    private static void fine() {
        SmokeVotes x = liking(0, 1);
        x.set(1, 4, 8);
        x.set(1, 3, 70);
        due("fine without a text", x.fine(1), 8);
        tellText(x, "fine f * 100 - w");
        due("fine by a text", x.fine(1), 6992);
        due("fine of another", x.fine(0), -3);
        due("fine of nobody", x.fine(2), BAD);
        due("fine of -1", x.fine(-1), BAD);
    }

    // ---- 24 to 28

    private static void feed() {
        SmokeVotes x = new SmokeVotes();
        for (int i = 1; i <= 8; i++) {
            due("feed " + i, x.feed(0x20202020, 0x20202020, 0x20202020), 12 * i);
        }
        due("feed full", x.feed(1, 2, 3), FULL);
        due("96 bytes", x.count(8), 96);
        due("blanks alone", x.text(), -196);
        due("used up", x.count(8), 0);
        x.feed(0x66656520, 0x31202020, 0x20202020);
        x.trim(0);
        due("none kept", x.text(), -100);
        x.feed(0x20666565, 0x20393837, 0x36202020);
        due("the highest byte first", x.text(), 0);
        due("9876", x.fee(), 9876);
        x.feed(0x66656520, 0x31202020, 0x20202080);
        due("a byte above 127 is a sign", x.text(), -111);
        x.trim(0);
        for (int i = 0; i < 7; i++) {
            x.feed(0x20202020, 0x20202020, 0x20202020);
        }
        x.trim(83);
        due("83 and 12", x.feed(0, 0, 0), 95);
        x.trim(85);
        due("85 and 12 are too many", x.feed(0, 0, 0), FULL);
    }

    private static void trim() {
        SmokeVotes x = new SmokeVotes();
        due("trim 0 of none", x.trim(0), 0);
        due("trim 1 of none", x.trim(1), BAD);
        x.feed(0, 0, 0);
        due("trim 13 of 12", x.trim(13), BAD);
        due("trim -1", x.trim(-1), BAD);
        due("trim 12 of 12", x.trim(12), 12);
        due("trim 5", x.trim(5), 5);
        due("trim 6 of 5", x.trim(6), BAD);
        due("5 bytes", x.count(8), 5);
    }

    private static void fault(String text, int place) {
        SmokeVotes x = new SmokeVotes();
        due("fault of \"" + text + "\"", tellText(x, text), place < 0 ? 0 : -100 - place);
        due("texts behind \"" + text + "\"", x.count(6), place < 0 ? 1 : 0);
        due("tape behind \"" + text + "\"", x.count(8), 0);
    }

    private static void textFaults() {
        fault("", 0);
        fault("   ", 3);
        fault("fee", 3);
        fault("fee ", 4);
        fault("fe 1", 0);
        fault("fees 1", 0);
        fault("  fees 1", 2);
        fault("feez 1", 0);
        fault("faa 1", 0);
        fault("bee 1", 0);
        fault("fef 1", 0);
        fault("Fee 1", 0);
        fault("1 fee", 0);
        fault("fee fee 1", 4);
        fault("fee1", 3);
        fault("fee 1", -1);
        fault("  fee   1  ", -1);
        fault("fee(1)", -1);
        fault("fee!1", -1);
        fault("fee 12345", 4);
        fault("fee 0000", -1);
        fault("fee 00000", 4);
        fault("fee 1 2", 6);
        fault("fee 1f", 5);
        fault("fee r1", 5);
        fault("fee f", 4);
        fault("fee p", 4);
        fault("fee r+w", -1);
        fault("sway f+r+p", -1);
        fault("sway w", 5);
        fault("fine f+w", -1);
        fault("fine r", 5);
        fault("fine p", 5);
        fault("sway fr", 5);
        fault("fee +1", 4);
        fault("fee -1", 4);
        fault("fee 1+", 6);
        fault("fee 1+  ", 8);
        fault("fee 1++1", 6);
        fault("fee 1<2<3", 7);
        fault("fee (1<2)<3", -1);
        fault("fee 1<2&3<4|5=6", -1);
        fault("fee 1+2<3*4>5", 11);
        fault("fee ()", 5);
        fault("fee (1", 6);
        fault("fee (1))", 7);
        fault("fee 1)", 5);
        fault("fee )", 4);
        fault("fee (1 2)", 7);
        fault("fee !", 5);
        fault("fee 1!", 5);
        fault("fee 1 # 2", 6);
        fault("fee 1\t", 5);
        fault("fee 1" + (char) 0, 5);
        fault("fee " + (char) 233, 4);
    }

    private static void textDepths() {
        fault("fee " + "(".repeat(8) + "1" + ")".repeat(8), -1);
        fault("fee " + "(".repeat(9) + "1" + ")".repeat(9), 12);
        fault("fee " + "!".repeat(8) + "1", -1);
        fault("fee " + "!".repeat(9) + "1", 12);
        fault("fee " + "!(".repeat(8) + "1" + ")".repeat(8), -1);
        fault("fee " + "!(".repeat(8) + "!1" + ")".repeat(8), 20);
        fault("fee " + "!(".repeat(8) + "(1)" + ")".repeat(8), 20);
        fault("fee " + "(".repeat(7) + "(1)+(1)" + ")".repeat(7), -1);
        fault("fee " + "!".repeat(8) + "1+" + "!".repeat(8) + "1", -1);
        fault("fee !(" + "!".repeat(7) + "1+" + "!".repeat(7) + "1)", -1);
        fault("fee !(" + "!".repeat(7) + "1+" + "!".repeat(8) + "1)", 22);
        fault("fee " + "1+".repeat(45) + "1 ", -1);
        fault("fee " + "1".repeat(92), 4);
    }

    private static void gives(String expression, int value) {
        SmokeVotes x = new SmokeVotes();
        due("told \"" + expression + "\"", tellText(x, "fee " + expression), 0);
        due("value of \"" + expression + "\"", x.fee(), value);
    }

    private static void textValues() {
        gives("2+3*4", 14);
        gives("(2+3)*4", 20);
        gives("10-3-2", 5);
        gives("100/10/5", 2);
        gives("7/0", 0);
        gives("(0-7)/2", -3);
        gives("2*3/4", 1);
        gives("9/2*2", 8);
        gives("1<2", 1);
        gives("2<2", 0);
        gives("2>1", 1);
        gives("2>2", 0);
        gives("2=2", 1);
        gives("2=3", 0);
        gives("1+1=2", 1);
        gives("5&3", 1);
        gives("5&0", 0);
        gives("5|0", 1);
        gives("0|0", 0);
        gives("1|0&0", 1);
        gives("(1|0)&0", 0);
        gives("1&2=2", 1);
        gives("!0", 1);
        gives("!7", 0);
        gives("!!7", 1);
        gives("!0+1", 2);
        gives("!(0+1)", 0);
        gives("9999", 9999);
        gives("0007", 7);
        gives("9999*9999*9999", 9999 * 9999 * 9999);
        gives("0-9999*9999*9999*9999", -(9999 * 9999 * 9999 * 9999));
        gives("1024*1024*2048/(0-1)", MIN);
    }

    private static void textNumbers() {
        SmokeVotes x = new SmokeVotes();
        due("a fault at a word", tellText(x, "fee 1 2"), -106);
        due("and nothing of it is left", tellText(x, "fee"), -103);
        due("nor of that", tellText(x, "f"), -100);
        due("text told of none", x.textTold(0, 0), BAD);
        for (int i = 0; i < 14; i++) {
            due("text " + i, tellText(x, i % 2 == 0 ? "fine f+1*(w|!22)" : "sway f"), i);
        }
        due("text full", tellText(x, "fee 1"), FULL);
        due("fault ahead of full", tellText(x, "fee"), -103);
        due("used up by full", x.count(8), 0);
        due("fourteen", x.count(6), 14);
        due("key of fine", x.textTold(12, 0), 2);
        due("key of sway", x.textTold(13, 0), 0);
        due("leaves of fine", x.textTold(0, 1), 4);
        due("leaves of sway", x.textTold(1, 1), 1);
        due("text told 14", x.textTold(14, 0), BAD);
        due("text told -1", x.textTold(-1, 0), BAD);
        due("text told what 2", x.textTold(0, 2), BAD);
        due("text told what -1", x.textTold(0, -1), BAD);
    }

    private static void why() {
        SmokeVotes x = new SmokeVotes();
        tellText(x, "fee 1");
        tellText(x, "fine 1");
        tellText(x, "fee 2");
        tellText(x, "fee");
        due("why sway", x.why(0), NONE);
        due("why fee", x.why(1), 2);
        due("why fine", x.why(2), 1);
        due("why 3", x.why(3), BAD);
        due("why -1", x.why(-1), BAD);
    }

    // ---- 29, 30

    private static void sheet() {
        SmokeVotes x = new SmokeVotes();
        due("sheet 24", x.sheet(0, 0, 24), 24);
        due("sheet 0", x.sheet(0, 1, 0), 0);
        due("sheet missing, n any", x.sheet(0, -1, MIN), 0);
        due("sheet missing, n above", x.sheet(0, -1, 99), 0);
        due("is missing", x.reads(0), NOTHING);
        due("sheet n 25", x.sheet(0, 0, 25), BAD);
        due("sheet n -1", x.sheet(0, 1, -1), SIZE);
        due("sheet sort 2", x.sheet(0, 2, -1), BAD);
        due("sheet sort -2", x.sheet(0, -2, 0), BAD);
        due("sheet 4", x.sheet(4, 0, -1), BAD);
        due("sheet -1", x.sheet(-1, 0, 1), BAD);
        due("is missing still", x.reads(0), NOTHING);
        x.sheet(1, 1, 2);
        x.mark(1, 1, NONE);
        x.sheet(1, 1, 2);
        x.lay(0, 2, 1);
        due("all 0 again", x.item(0, 1), 0);
    }

    private static void mark() {
        SmokeVotes x = new SmokeVotes();
        x.sheet(0, 0, 2);
        x.sheet(1, 1, 2);
        due("mark short", x.mark(0, 0, 65536 + 7), 1);
        due("mark short wraps", x.mark(0, 1, 32768), 1);
        x.lay(0, 2, 0);
        due("lowest 16 bits", x.item(0, 0), 7);
        due("lowest 16 bits below 0", x.item(0, 1), -32768);
        due("mark float most", x.mark(1, 0, 99999), 1);
        due("mark float least", x.mark(1, 1, -99999), 1);
        due("mark float above", x.mark(1, 0, 100000), BAD);
        due("mark float below", x.mark(1, 0, -100000), BAD);
        x.lay(1, 2, 1);
        due("float most", x.item(1, 0), 99999);
        due("float least", x.item(1, 1), -99999);
        due("mark no number", x.mark(1, 0, NONE), 1);
        due("mark no number in shorts", x.mark(0, 0, NONE), KIND);
        due("index ahead of kind", x.mark(0, 2, NONE), INDEX);
        due("index ahead of bad", x.mark(1, -1, 100000), INDEX);
        due("mark missing", x.mark(2, -1, 0), NOTHING);
        due("mark sheet 4", x.mark(4, 0, 0), BAD);
        due("mark sheet -1", x.mark(-1, 0, 0), BAD);
    }

    // ---- 31, 32

    private static void pour() {
        SmokeVotes x = liking(0, 0, 0, 0);
        x.sheet(0, 1, 3);
        x.mark(0, 0, 12);
        x.mark(0, 1, NONE);
        x.mark(0, 2, 3);
        due("pour", x.pour(0), 1);
        int[] wets = {9, 3, 3, 3};
        for (int v = 0; v < 4; v++) {
            due("poured " + v, x.told(v, 4), wets[v]);
        }
        x.mark(0, 0, -1);
        due("pour below 0", x.pour(0), 1);
        due("0 at least", x.told(0, 4), 0);
        due("pour again", x.pour(0), 0);
        x.sheet(1, 0, 24);
        due("pour more places than voters", x.pour(1), 3);
        SmokeVotes ten = tenLoyal();
        ten.sheet(0, 0, 24);
        due("pour for ten", ten.pour(0), 10);
        due("pour missing", x.pour(2), NOTHING);
        due("pour 4", x.pour(4), BAD);
        due("pour -1", x.pour(-1), BAD);
    }

    private static void reads() {
        SmokeVotes x = liking(1, 1, 2);
        x.rounds(1);
        x.sheet(0, 1, 5);
        due("0 has nothing", x.reads(0), 1);
        x.mark(0, 0, 1);
        due("0 has not one", x.reads(0), 0);
        x.mark(0, 0, 0);
        x.mark(0, 1, 2);
        due("2 has one", x.reads(0), 2);
        x.mark(0, 2, NONE);
        due("3 is no voter", x.reads(0), 3);
        x.mark(0, 3, NONE);
        due("4 is no voter", x.reads(0), 4);
        x.mark(0, 4, NONE);
        due("there is none", x.reads(0), NONE);
        x.sheet(1, 0, 0);
        due("no places", x.reads(1), NONE);
        due("reads missing", x.reads(2), NOTHING);
        due("reads 4", x.reads(4), BAD);
        due("reads -1", x.reads(-1), BAD);
    }

    // ---- 33

    private static void copy() {
        SmokeVotes x = new SmokeVotes();
        x.sheet(0, 0, 4);
        x.sheet(1, 0, 2);
        x.sheet(2, 1, 4);
        for (int i = 0; i < 4; i++) {
            x.mark(0, i, i + 1);
        }
        due("copy within, as they were", x.copy(0, 0, 0, 1, 3), 3);
        x.lay(0, 2, 0);
        int[] row = {1, 1, 2, 3};
        for (int i = 0; i < 4; i++) {
            due("copied " + i, x.item(0, i), row[i]);
        }
        due("copy back within", x.copy(0, 2, 0, 0, 2), 2);
        due("copy to another", x.copy(0, 0, 1, 0, 2), 2);
        x.lay(0, 2, 1);
        due("came 0", x.item(0, 0), 2);
        due("came 1", x.item(0, 1), 3);
        due("copy none at the end", x.copy(0, 4, 1, 2, 0), 0);
        int[][] index = {{0, 5, 1, 0, 0}, {0, 0, 1, 3, 0}, {0, 0, 1, 0, 3}, {0, 3, 1, 0, 2}, {0, -1, 1, 0, 1},
            {0, 0, 1, -1, 1}, {0, 0, 1, 0, -1}, {0, MAX, 1, 0, MAX}, {0, 1, 1, 1, MAX}, {0, MIN, 1, MIN, MIN}};
        for (int[] c : index) {
            due("copy index", x.copy(c[0], c[1], c[2], c[3], c[4]), INDEX);
        }
        due("copy kind, ahead of index", x.copy(0, 9, 2, 9, 9), KIND);
        due("copy missing, ahead of index", x.copy(0, 9, 3, 0, 1), NOTHING);
        due("copy from missing", x.copy(3, 0, 2, 0, 1), NOTHING);
        due("copy bad, ahead of missing", x.copy(3, 0, 4, 0, 1), BAD);
        due("copy bad from", x.copy(-1, 0, 0, 0, 1), BAD);
        x.mark(2, 0, NONE);
        x.copy(2, 0, 2, 3, 1);
        x.lay(0, 2, 2);
        due("no number is copied too", x.item(0, 3), KIND);
    }

    // ---- 34 to 37

    private static void lay() {
        SmokeVotes x = liking(0);
        x.sheet(0, 0, 1);
        due("lay number", x.lay(0, 3, MIN), 0);
        due("lay sheet", x.lay(0, 2, 0), 3);
        due("lay voter", x.lay(0, 1, 0), 2);
        due("lay nothing", x.lay(0, 0, MAX), 1);
        due("lay nothing again", x.lay(0, 0, 0), 0);
        due("lay slot 5", x.lay(5, 0, 0), BAD);
        due("lay slot -1", x.lay(-1, 0, 0), BAD);
        due("lay thing 4", x.lay(0, 4, 0), BAD);
        due("lay thing -1", x.lay(0, -1, 0), BAD);
        due("lay voter 1", x.lay(0, 1, 1), BAD);
        due("lay sheet 4", x.lay(0, 2, 4), BAD);
        due("lay sheet -1", x.lay(0, 2, -1), BAD);
        x.lay(4, 3, 8);
        due("lay missing", x.lay(4, 2, 1), NOTHING);
        due("it holds what it held", x.rest(4, 5), 3);
    }

    private static void ask() {
        SmokeVotes x = new SmokeVotes();
        x.voter(3, 0, 0, 20);
        x.lay(0, 1, 0);
        x.set(0, 3, 90);
        x.turns(0, 0);
        due("as it was then", x.ask(0, 1), 52);
        x.sheet(0, 0, 1);
        x.lay(1, 2, 0);
        x.lay(2, 3, 4);
        due("ask a sheet", x.ask(1, 0), KIND);
        due("ask a number", x.ask(2, 0), KIND);
        due("ask nothing", x.ask(3, 0), NOTHING);
        due("bad ahead of nothing", x.ask(3, 6), BAD);
        due("ask kind -1", x.ask(0, -1), BAD);
        due("ask slot 5", x.ask(5, 0), BAD);
        due("ask slot -1", x.ask(-1, 0), BAD);
    }

    private static void item() {
        SmokeVotes x = liking(0);
        x.sheet(0, 1, 2);
        x.mark(0, 0, 5);
        x.mark(0, 1, NONE);
        x.lay(0, 2, 0);
        x.mark(0, 0, 6);
        x.sheet(0, -1, 0);
        due("a row of its own", x.item(0, 0), 5);
        due("no number", x.item(0, 1), KIND);
        due("item 2", x.item(0, 2), INDEX);
        due("item -1", x.item(0, -1), INDEX);
        x.lay(1, 1, 0);
        x.lay(2, 3, 0);
        due("item of a voter", x.item(1, 9), KIND);
        due("item of a number", x.item(2, 9), KIND);
        due("item of nothing", x.item(3, 9), NOTHING);
        due("item slot 5", x.item(5, 0), BAD);
        due("item slot -1", x.item(-1, 0), BAD);
    }

    private static void rest() {
        SmokeVotes x = liking(0);
        x.lay(0, 3, 17);
        due("rest 5", x.rest(0, 5), 2);
        due("rest -5", x.rest(0, -5), 2);
        x.lay(0, 3, -17);
        due("rest of -17", x.rest(0, 5), -2);
        x.lay(0, 3, MIN);
        due("rest of the least by -1", x.rest(0, -1), 0);
        due("rest 0", x.rest(0, 0), NO);
        x.lay(1, 1, 0);
        due("rest of a voter", x.rest(1, 0), KIND);
        due("rest of nothing", x.rest(2, 0), NOTHING);
        due("rest slot 5", x.rest(5, 0), BAD);
        due("rest slot -1", x.rest(-1, 0), BAD);
    }

    // ---- 38 to 42

    private static void tell() {
        SmokeVotes x = new SmokeVotes();
        for (int i = 1; i <= 60; i++) {
            due("tell " + i, x.tell(i), i);
        }
        due("tell full", x.tell(0), FULL);
        due("60 wait", x.count(7), 60);
        due("no image", x.check(1), NO);
        due("none wait", x.count(7), 0);
        x.tell(1);
        due("check 0, ahead of no image", x.check(0), BAD);
        due("none wait then either", x.count(7), 0);
        due("tell anew", x.tell(1), 1);
    }

    private static int checked(SmokeVotes x, int n, int... rows) {
        for (int v : rows) {
            x.tell(v);
        }
        return x.check(n);
    }

    private static void check() {
        SmokeVotes x = liking(1, 1, 2, 2, 3, 3);
        x.rule(2, 1);
        x.keep();
        x.rounds(9);
        x.rule(0, 99);
        due("right", checked(x, 3, 2, 2, 0, 4, 0, 4), 0);
        due("wrong smoke", checked(x, 2, 2, 2, 1, 4), 3);
        due("wrong most", checked(x, 2, 2, 2, 0, 5), 4);
        due("wrong at once", checked(x, 2, 3, 9, 9, 9), 1);
        due("one missing", checked(x, 2, 2, 2, 0), 4);
        due("all missing", checked(x, 2), 1);
        due("one too many", checked(x, 1, 2, 2, 0), 3);
        due("two too many", checked(x, 1, 2, 2, 0, 4), 3);
        due("check 31", checked(x, 31, 2, 2), BAD);
        due("none wait", x.count(7), 0);
        due("nothing changes", x.count(2), 2);
        int[] sixty = new int[60];
        for (int i = 0; i < 60; i++) {
            sixty[i] = i == 0 || i == 1 ? 2 : i % 2 == 0 ? 0 : 4;
        }
        due("thirty", checked(x, 30, sixty), 0);
        SmokeVotes y = new SmokeVotes();
        y.keep();
        due("of nobody", checked(y, 1, 3, 0), 0);
    }

    private static void checkOnLastDays() {
        SmokeVotes x = new SmokeVotes();
        for (int i = 0; i < 99; i++) {
            x.rounds(100);
        }
        x.rounds(97);
        x.voter(0, 0, 0, 0);
        x.voter(0, 1, 0, 0);
        x.rule(0, 99);
        x.keep();
        due("two days are left", checked(x, 30, 3, 1, 3, 1), 0);
        due("and no third one", checked(x, 30, 3, 1, 3, 1, 3, 1), 5);
        x.rounds(2);
        x.keep();
        due("none is left", checked(x, 1), 0);
        due("none is left, one told", checked(x, 1, 3), 1);
    }

    private static void images() {
        SmokeVotes x = liking(0, 1, 2);
        x.rounds(1);
        x.rule(0, 5);
        x.rule(1, 6);
        x.rule(2, 7);
        x.seed(1234);
        x.sheet(0, 0, 1);
        x.lay(0, 3, 3);
        due("keep", x.keep(), 3);
        int[] before = state(x);
        for (int times = 0; times < 2; times++) {
            x.voter(5, 0, 3, 9);
            x.turns(0, 5);
            x.set(0, 1, 1);
            x.set(0, 2, 1);
            x.set(0, 3, 1);
            x.set(0, 4, 1);
            x.rule(0, 99);
            x.rule(1, 99);
            x.rule(2, 99);
            x.again();
            x.rounds(7);
            x.mark(0, 0, 8);
            x.lay(0, 3, 4);
            x.tell(1);
            x.feed(1, 2, 3);
            int waits = x.count(7);
            int bytes = x.count(8);
            due("back", x.back(), 3);
            int[] after = state(x);
            for (int i = 0; i < after.length; i++) {
                due("back at " + i, after[i], before[i]);
            }
            due("waits stay", x.count(7), waits);
            due("bytes stay", x.count(8), bytes);
            due("slots stay", x.rest(0, 9), 4);
            x.lay(1, 2, 0);
            due("sheets stay", x.item(1, 0), 8);
        }
        x.turns(2, 5);
        due("keep anew", x.keep(), 3);
        x.turns(2, 0);
        x.back();
        due("the latest image counts", x.told(2, 0), 5);
    }

    private static int[] state(SmokeVotes x) {
        int[] all = new int[7 + 6 + 30];
        int at = 0;
        for (int what : new int[] {0, 1, 2, 3, 4, 5, 9}) {
            all[at++] = x.count(what);
        }
        for (int what = 0; what < 6; what++) {
            all[at++] = x.conclave(what);
        }
        for (int voter = 0; voter < 3; voter++) {
            for (int what = 0; what < 10; what++) {
                all[at++] = x.told(voter, what);
            }
        }
        return all;
    }

    private static void imageTexts() {
        SmokeVotes x = new SmokeVotes();
        tellText(x, "fee 1");
        x.keep();
        tellText(x, "fee 2");
        due("fee 2", x.fee(), 2);
        x.back();
        due("texts as in the image", x.count(6), 1);
        due("fee 1 again", x.fee(), 1);
        due("why as in the image", x.why(1), 0);
        due("text 1 is gone", x.textTold(1, 0), BAD);
        due("text 1 anew", tellText(x, "fine 3 + 3"), 1);
        due("it is the new one", x.textTold(1, 0), 2);
        due("fee is 1 still", x.fee(), 1);
        SmokeVotes y = liking(0, 0, 2, 3);
        y.turns(3, 2);
        y.set(3, 3, 20);
        y.rule(0, 99);
        y.keep();
        tellText(y, "sway 0");
        due("by the image: without the text", checked(y, 2, 3, 2, 3, 2), 0);
        due("now: with the text", y.behind(2, 1), 3);
        y.keep();
        due("by the new image: with the text", checked(y, 2, 3, 2, 0, 3), 0);
    }

    private static void count() {
        SmokeVotes x = liking(0, 1);
        x.rule(0, 11);
        x.rule(1, 12);
        x.rule(2, 13);
        x.rounds(3);
        x.again();
        x.rounds(2);
        tellText(x, "fee 1");
        x.tell(9);
        x.feed(0, 0, 0);
        x.seed(99);
        int[] parts = {2, 5, 2, 11, 12, 13, 1, 1, 12, 99};
        for (int i = 0; i < parts.length; i++) {
            due("count " + i, x.count(i), parts[i]);
        }
        due("count 10", x.count(10), BAD);
        due("count -1", x.count(-1), BAD);
    }
}
