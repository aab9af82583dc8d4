/** Promises 11 to 15 at their edges, and parts 1 and 2 of the terms: votes, smoke, a round, splits. */
public final class EdgeRoundsTest {
    private static final int BAD = Edges.BAD, NONE = Edges.NONE, MIN = Edges.MIN, MAX = Edges.MAX;
    private static final int[] WANTED = {0, 1, 2, 2, 3, 4, 4, 5, 6, 6, 7, 8, 8, 9, 10, 10, 11, 12, 12, 13, 14};

    public static void main(String[] args) {
        counts();
        wanted();
        runners();
        votesOfVoter();
        votesOfLoyal();
        votesOfWhip();
        votesOfSwayed();
        votesOfSick();
        smoke();
        smokeOfWhom();
        round();
        roundDraws();
        rounds();
        lastDay();
        conclave();
        butOne();
        decides();
        splits();
        Edges.end();
    }

    private static void due(String what, int got, int want) {
        Edges.due(what, got, want);
    }

    /** So many voters, of which the first so many like voter 0 and each other one itself. */
    private static SmokeVotes behindFirst(int all, int many) {
        SmokeVotes x = new SmokeVotes();
        for (int v = 0; v < all; v++) {
            x.voter(0, v < many ? 0 : v, 0, 0);
        }
        return x;
    }

    // ---- terms, part 1: HAS, WANTED, RUNNERS

    private static void counts() {
        Edges.sentence("HAS: what all votes for it COUNT, together", () -> {
            for (int straws = 0; straws <= 10; straws++) {
                SmokeVotes x = Edges.liking(4, 4, 4, 4, 4, 4, 4, 4, 4, 4);
                for (int v = 0; v < straws; v++) {
                    x.turns(v, 5);
                }
                x.rounds(1);
                due(straws + " straws", x.told(4, 6), 10 + straws);
            }
        });
        Edges.sentence("HAS: 0 ahead of the first round", () -> due("HAS", Edges.liking(0).told(0, 6), 0));
        Edges.sentence("HAS: votes for nobody are for nobody", () -> {
            SmokeVotes x = Edges.ofKind(4, 0, 1, 2);
            x.rounds(2);
            for (int v = 0; v < 3; v++) {
                due("HAS " + v, x.told(v, 6), 0);
            }
        });
    }

    private static void wanted() {
        Edges.sentence("WANTED: two thirds, the next whole number above, if that is none", () -> {
            for (int all = 0; all <= 10; all++) {
                due("of " + all, behindFirst(all, all).conclave(1), WANTED[all]);
            }
        });
        Edges.sentence("WANTED: straw votes count twice", () -> {
            for (int straws = 0; straws <= 10; straws++) {
                SmokeVotes x = behindFirst(10, 10);
                for (int v = 0; v < straws; v++) {
                    x.turns(9 - v, 5);
                }
                due(straws + " straws", x.conclave(1), WANTED[10 + straws]);
            }
        });
        Edges.sentence("WANTED: of all votes, those for nobody too", () -> {
            SmokeVotes x = Edges.ofKind(4, 0, 1, 2);
            x.rounds(2);
            due("nobody voted", x.conclave(1), 2);
        });
    }

    private static void runners() {
        Edges.sentence("RUNNERS: if ROUNDS are RUN or more", () -> {
            for (int run : new int[] {1, 2, 3, 50, 98, 99}) {
                SmokeVotes x = Edges.liking(1, 1, 2, 2, 3, 3);
                x.rule(2, run);
                if (run > 1) {
                    x.rounds(run - 1);
                }
                due("one round less than " + run, x.conclave(4), 63);
                x.rounds(1);
                due(run + " rounds", x.conclave(4), 6);
                x.rule(2, run == 1 ? 1 : run - 1);
                due("one round more", x.conclave(4), 6);
            }
        });
        Edges.sentence("RUNNERS: RUN as it is now", () -> {
            SmokeVotes x = Edges.liking(1, 1, 2, 2, 3, 3);
            x.rounds(4);
            x.rule(2, 5);
            due("RUN 5 behind 4", x.conclave(4), 63);
            x.rule(2, 4);
            due("RUN 4 behind 4", x.conclave(4), 6);
        });
        Edges.sentence("RUNNERS: nobody HAS anything: all VOTERS", () -> {
            SmokeVotes x = Edges.ofKind(4, 0, 1, 2);
            x.rule(2, 1);
            due("ahead of a round", x.conclave(4), 7);
            x.rounds(1);
            due("all have one", x.conclave(4), 3);
            x.rounds(1);
            due("none has one", x.conclave(4), 7);
        });
        Edges.sentence("RUNNERS: one, if but one HAS anything", () -> {
            SmokeVotes x = Edges.ofKind(4, 0, 1, 2, 3);
            x.turns(3, 0);
            x.rule(2, 2);
            x.rounds(2);
            due("the last one alone", x.conclave(4), 8);
            due("likes another, votes for it", x.told(0, 7), 3);
        });
        Edges.sentence("RUNNERS: the two with the most, the last ones too", () -> {
            SmokeVotes x = Edges.liking(9, 9, 9, 8, 8, 8, 0, 1, 2, 3);
            x.rule(2, 1);
            x.rounds(1);
            due("8 and 9", x.conclave(4), 768);
        });
        Edges.sentence("RUNNERS: of several the least numbers", () -> {
            SmokeVotes first = Edges.liking(5, 5, 5, 7, 7, 2, 2, 0, 1, 3);
            first.rule(2, 1);
            first.rounds(1);
            due("one ahead, two for the second place", first.conclave(4), 36);
            SmokeVotes all = Edges.liking(9, 8, 7, 6, 5, 4, 3, 2, 1, 0);
            all.rule(2, 1);
            all.rounds(1);
            due("ten with one each", all.conclave(4), 3);
        });
        Edges.sentence("RUNNERS: the second with the most stands ahead of the first by number", () -> {
            SmokeVotes x = Edges.liking(6, 6, 6, 4, 4, 0);
            x.voter(0, 6, 0, 0);
            x.voter(0, 1, 0, 0);
            x.rule(2, 1);
            x.rounds(1);
            due("4 and 6", x.conclave(4), 80);
        });
        Edges.sentence("RUNNERS: but two behind a choice too", () -> {
            SmokeVotes x = Edges.liking(0, 0, 1);
            x.rule(2, 1);
            due("0 is CHOSEN", x.rounds(1), 0);
            due("0 and 1", x.conclave(4), 3);
            due("votes by the RUNNERS", x.told(2, 7), 1);
        });
        Edges.sentence("RUNNERS: a single VOTER", () -> {
            SmokeVotes x = Edges.liking(0);
            x.rule(2, 1);
            x.rounds(1);
            due("itself", x.conclave(4), 1);
        });
    }

    // ---- terms, part 1: VOTES FOR

    private static void votesOfVoter() {
        Edges.sentence("VOTES FOR: whom it LIKES, if that one is among the RUNNERS", () -> {
            SmokeVotes x = Edges.liking(1, 1, 2, 2, 3, 3);
            x.rule(2, 1);
            due("all run", x.told(5, 7), 3);
            x.rounds(1);
            due("the first runner", x.told(0, 7), 1);
            due("the second runner", x.told(3, 7), 2);
            due("no runner: the one with the most, the least", x.told(5, 7), 1);
        });
        Edges.sentence("VOTES FOR: one that is not there yet", () -> {
            SmokeVotes x = Edges.liking(2, 2);
            due("nobody HAS anything: the least", x.told(1, 7), 0);
            x.voter(0, 2, 0, 0);
            due("it is there", x.told(1, 7), 2);
        });
        Edges.sentence("VOTES FOR: of the RUNNERS the one with the most, of several the least", () -> {
            SmokeVotes x = Edges.liking(1, 1, 2, 2, 9, 9);
            x.rule(2, 99);
            x.rounds(1);
            due("0 HAS 2, 1 HAS 2, 2 HAS 2", x.told(0, 6) + 10 * x.told(1, 6) + 100 * x.told(2, 6), 222);
            due("the least", x.told(4, 7), 0);
            x.rounds(1);
            due("the most: 0 again", x.told(0, 6), 2);
        });
        Edges.sentence("VOTES FOR: STRAW as VOTER", () -> {
            SmokeVotes x = Edges.ofKind(5, 1, 1, 2, 2, 3, 3);
            x.rule(2, 1);
            due("whom it LIKES", x.told(5, 7), 3);
            x.rounds(1);
            due("the one with the most", x.told(5, 7), 1);
        });
        Edges.sentence("VOTES FOR: VOTER and STRAW: whom it LIKES, whoever HAS more, whatever sway gives", () -> {
            for (int kind : new int[] {0, 5}) {
                SmokeVotes x = Edges.liking(1, 1, 1, 2, 3, 0);
                for (int v = 0; v < 6; v++) {
                    x.turns(v, kind);
                }
                Edges.tellText(x, "sway 0");
                for (int n = 1; n <= 2; n++) {
                    x.rounds(1);
                    due("nobody is CHOSEN", x.conclave(0), Edges.NOBODY);
                    due("1 HAS the most", x.conclave(5), 1);
                    due("likes 2", x.told(3, 7), 2);
                    due("likes 3", x.told(4, 7), 3);
                    due("likes 0", x.told(5, 7), 0);
                }
            }
        });
    }

    private static void votesOfLoyal() {
        Edges.sentence("LOYAL: nobody HAS anything: the least of its own PARTY", () -> {
            SmokeVotes x = Edges.liking(0, 0, 0);
            x.set(0, 2, 1);
            x.turns(2, 1);
            due("LOYAL", x.told(2, 7), 1);
        });
        Edges.sentence("LOYAL: itself, if it is alone in its PARTY", () -> {
            SmokeVotes x = Edges.liking(0, 0, 0);
            x.turns(2, 1);
            x.set(2, 2, 3);
            due("LOYAL", x.told(2, 7), 2);
        });
        Edges.sentence("LOYAL: of its own PARTY the one with the most, of several the least", () -> {
            SmokeVotes x = Edges.liking(0, 1, 2, 2, 3, 0, 0);
            x.set(0, 2, 1);
            x.turns(6, 1);
            x.rule(2, 99);
            x.rounds(1);
            due("1 and 2 have two: the least", x.told(6, 7), 1);
            x.set(1, 2, 1);
            due("2 HAS two, 3 one", x.told(6, 7), 2);
            x.set(2, 2, 1);
            due("3 HAS one", x.told(6, 7), 3);
            x.set(3, 2, 1);
            due("none of them HAS anything: the least", x.told(6, 7), 4);
        });
        Edges.sentence("LOYAL: of its own PARTY the one with the most, whatever FAITH it has", () -> {
            for (int faith : new int[] {0, 49, 50, 99}) {
                SmokeVotes x = Edges.liking(1, 1, 2, 0, 3);
                x.turns(3, 1);
                x.set(3, 3, faith);
                due("ahead of a round", x.told(3, 7), 0);
                x.rounds(1);
                due("1 HAS two", x.told(3, 7), 1);
            }
        });
        Edges.sentence("LOYAL: no RUNNER of its PARTY: as VOTER", () -> {
            SmokeVotes x = Edges.liking(0, 0, 1, 1, 1, 0);
            x.turns(5, 1);
            x.set(5, 2, 2);
            x.rule(2, 1);
            x.rounds(1);
            due("RUNNERS", x.conclave(4), 3);
            due("whom it LIKES", x.told(5, 7), 0);
            x.set(5, 1, 4);
            due("not among the RUNNERS: the one with the most", x.told(5, 7), 1);
        });
        Edges.sentence("LOYAL: PARTY 0 and PARTY 3 are parties as others", () -> {
            for (int party = 0; party < 4; party++) {
                SmokeVotes x = Edges.liking(0, 0, 0);
                for (int v = 0; v < 3; v++) {
                    x.set(v, 2, v == 0 ? (party + 1) % 4 : party);
                }
                x.turns(2, 1);
                due("PARTY " + party, x.told(2, 7), 1);
            }
        });
    }

    private static void votesOfWhip() {
        Edges.sentence("WHIP: itself, if FAITH is 50 or more", () -> {
            int[][] rows = {{0, 0}, {49, 0}, {50, 1}, {51, 1}, {99, 1}};
            for (int[] row : rows) {
                SmokeVotes x = Edges.liking(0, 0);
                x.turns(1, 3);
                x.set(1, 3, row[0]);
                due("FAITH " + row[0], x.told(1, 7), row[1]);
            }
        });
        Edges.sentence("WHIP: itself, if it is among the RUNNERS", () -> {
            SmokeVotes x = Edges.liking(0, 0, 1, 1, 2);
            x.turns(4, 3);
            x.set(4, 3, 50);
            x.rule(2, 1);
            x.rounds(1);
            due("it HAS one", x.told(4, 6), 1);
            due("it does not run: as LOYAL", x.told(4, 7), 0);
            x.rule(2, 2);
            due("all run: itself", x.told(4, 7), 4);
        });
        Edges.sentence("WHIP: no RUNNER of its PARTY: as VOTER", () -> {
            SmokeVotes x = Edges.liking(0, 0, 1, 1, 1);
            x.turns(4, 3);
            x.set(4, 2, 3);
            x.set(4, 3, 49);
            x.rule(2, 1);
            due("alone in its PARTY: itself", x.told(4, 7), 4);
            x.rounds(1);
            due("whom it LIKES", x.told(4, 7), 1);
        });
    }

    private static void votesOfSwayed() {
        Edges.sentence("SWAYED: if that HAS more than FAITH / 10", () -> {
            int[][] rows = {{0, 0}, {9, 0}, {10, 1}, {19, 1}, {20, 2}, {29, 2}, {30, 3}, {89, 8}, {90, 9}, {99, 9}};
            for (int[] row : rows) {
                for (int most = 1; most <= 9; most++) {
                    SmokeVotes x = new SmokeVotes();
                    for (int v = 0; v < most; v++) {
                        x.voter(0, 0, 0, 0);
                    }
                    x.voter(2, most, 0, row[0]);
                    x.rounds(1);
                    due("0 HAS", x.told(0, 6), most);
                    due("FAITH " + row[0] + ", " + most, x.told(most, 7), most > row[1] ? 0 : most);
                }
            }
        });
        Edges.sentence("SWAYED: nobody HAS anything: as VOTER", () -> {
            SmokeVotes x = Edges.liking(0, 0, 0);
            x.turns(2, 2);
            x.set(2, 1, 1);
            due("whom it LIKES", x.told(2, 7), 1);
            x.set(2, 1, 9);
            due("not there: the least", x.told(2, 7), 0);
        });
        Edges.sentence("SWAYED: what sway gives, held within 0 .. 99", () -> {
            SmokeVotes x = Edges.ofKind(5, 0, 0, 0, 0, 0, 0, 0, 0, 0, 0);
            x.rounds(1);
            x.turns(9, 2);
            x.set(9, 1, 1);
            due("0 HAS", x.told(0, 6), 19);
            String[] laws = {"18", "19", "20", "99", "100", "1024*1024*2047", "1024*1024*2048", "0", "0-1",
                "0-9999*9999*21"};
            int[] whom = {0, 1, 1, 1, 1, 1, 0, 0, 0, 0};
            for (int i = 0; i < laws.length; i++) {
                Edges.tellText(x, "sway " + laws[i]);
                due("sway " + laws[i], x.told(9, 7), whom[i]);
            }
        });
        Edges.sentence("SWAYED: sway below 0 is 0: one that HAS nothing does not sway", () -> {
            SmokeVotes x = Edges.liking(0, 1);
            x.turns(1, 2);
            Edges.tellText(x, "sway 0-5");
            due("0 is not more than 0", x.told(1, 7), 1);
        });
        Edges.sentence("SWAYED: sway by f FAITH 0 .. 99, p PARTY 0 .. 3, r ROUNDS", () -> {
            swayedBy("f", 0, 0, true);
            swayedBy("f", 1, 0, true);
            swayedBy("f", 2, 0, false);
            swayedBy("f - 98", 99, 0, true);
            swayedBy("f - 97", 99, 0, false);
            swayedBy("p", 99, 0, true);
            swayedBy("p", 99, 1, true);
            swayedBy("p", 0, 2, false);
            swayedBy("p", 0, 3, false);
            swayedBy("p - 2", 99, 3, true);
            swayedBy("r", 99, 3, true);
            swayedBy("r + 1", 0, 0, false);
        });
        Edges.sentence("SWAYED: of the RUNNERS the one with the most, of several the least", () -> {
            SmokeVotes x = Edges.liking(2, 2, 1, 1, 4);
            x.turns(4, 2);
            x.rounds(1);
            due("1 and 2 have two", x.told(4, 7), 1);
        });
        Edges.sentence("SWAYED: what sway gives is of the VOTER and of the ROUNDS ahead", () -> {
            SmokeVotes x = Edges.liking(0, 0, 2, 3, 4, 5);
            x.turns(2, 2);
            x.set(2, 3, 99);
            Edges.tellText(x, "sway 99 * (r < 3)");
            x.rounds(3);
            due("ROUNDS are 3", x.told(2, 7), 0);
            due("voted in the third by ROUNDS 2", x.told(2, 5), 2);
            x.rounds(1);
            due("voted in the fourth by ROUNDS 3", x.told(2, 5), 0);
        });
    }

    /** A swayed one behind one round in which the first one got 2: whether a law lets it be swayed. */
    private static void swayedBy(String law, int faith, int party, boolean swayed) {
        SmokeVotes x = Edges.liking(0, 0, 2, 3, 4);
        x.rounds(1);
        x.voter(2, 4, party, faith);
        Edges.tellText(x, "sway " + law);
        due("sway " + law + " of FAITH " + faith + ", PARTY " + party, x.told(5, 7), swayed ? 0 : 4);
    }

    private static void votesOfSick() {
        Edges.sentence("SICK: nobody, if ROUNDS are odd", () -> {
            SmokeVotes x = Edges.liking(0, 1, 2, 3);
            x.turns(3, 4);
            x.set(3, 3, 99);
            x.rule(2, 99);
            for (int rounds = 0; rounds < 12; rounds++) {
                due("ROUNDS " + rounds, x.told(3, 7), rounds % 2 == 0 ? 3 : -1);
                x.rounds(1);
                due("VOTED", x.told(3, 5), rounds % 2 == 0 ? 3 : -1);
            }
        });
        Edges.sentence("SICK: else as SWAYED", () -> {
            SmokeVotes x = Edges.liking(0, 0, 2, 3);
            x.turns(3, 4);
            x.set(3, 3, 20);
            x.rounds(2);
            due("2 is not more than 2", x.told(3, 7), 3);
            x.set(3, 3, 19);
            due("2 is more than 1", x.told(3, 7), 0);
            Edges.tellText(x, "sway 2");
            due("by a TEXT", x.told(3, 7), 3);
        });
    }

    // ---- terms, part 1: SMOKE

    private static int smokeOf(int resin, int draft, int wet, int voters) {
        SmokeVotes x = new SmokeVotes();
        for (int v = 0; v < voters; v++) {
            x.voter(0, v, 0, 0);
            x.set(v, 4, wet);
        }
        x.rule(0, resin);
        x.rule(1, draft);
        x.rounds(1);
        return x.conclave(2);
    }

    private static void smoke() {
        Edges.sentence("SMOKE: 1 grey, if DAMP is below 10", () -> {
            due("DAMP 0", smokeOf(0, 0, 0, 2), 1);
            due("DAMP 9", smokeOf(9, 0, 0, 2), 1);
            due("DAMP 10", smokeOf(10, 0, 0, 2), 2);
            due("DAMP 9 by papers", smokeOf(0, 0, 3, 3), 1);
            due("DAMP 10 by papers", smokeOf(0, 0, 5, 2), 2);
        });
        Edges.sentence("SMOKE: 2 dark, if it is below 25; 3 black", () -> {
            due("DAMP 24", smokeOf(24, 0, 0, 2), 2);
            due("DAMP 25", smokeOf(25, 0, 0, 2), 3);
            due("DAMP 24 by papers", smokeOf(0, 0, 8, 3), 2);
            due("DAMP 25 by papers", smokeOf(0, 0, 5, 5), 3);
        });
        Edges.sentence("SMOKE: DAMP with all at their most", () -> {
            due("99 and ten times 9", smokeOf(99, 0, 9, 10), 3);
            due("99 and none, less 9", smokeOf(99, 99, 0, 2), 3);
        });
        Edges.sentence("SMOKE: less DRAFT / 10, cut towards 0", () -> {
            int[][] rows = {{0, 0}, {9, 0}, {10, 1}, {19, 1}, {20, 2}, {89, 8}, {90, 9}, {99, 9}};
            for (int[] row : rows) {
                due("DRAFT " + row[0] + ", DAMP 9", smokeOf(9 + row[1], row[0], 0, 2), 1);
                due("DRAFT " + row[0] + ", DAMP 10", smokeOf(10 + row[1], row[0], 0, 2), 2);
                due("DRAFT " + row[0] + ", DAMP 24", smokeOf(24 + row[1], row[0], 0, 2), 2);
                due("DRAFT " + row[0] + ", DAMP 25", smokeOf(25 + row[1], row[0], 0, 2), 3);
            }
        });
        Edges.sentence("SMOKE: papers and RESIN together, DRAFT / 10 less than both", () -> {
            due("14 of papers, less 5", smokeOf(0, 50, 7, 2), 1);
            due("15 of papers, less 5", smokeOf(0, 50, 5, 3), 2);
            due("27 of papers, less 3", smokeOf(0, 30, 9, 3), 2);
            due("28 of papers, less 3", smokeOf(0, 30, 7, 4), 3);
            due("12 of papers and 2, less 5", smokeOf(2, 50, 6, 2), 1);
            due("12 of papers and 3, less 5", smokeOf(3, 50, 6, 2), 2);
            due("8 of papers and 6, less 5", smokeOf(6, 50, 4, 2), 1);
            due("8 of papers and 7, less 5", smokeOf(7, 50, 4, 2), 2);
        });
        Edges.sentence("SMOKE: DAMP is 0 at least", () -> due("0 less 9", smokeOf(0, 99, 0, 2), 1));
        Edges.sentence("SMOKE: 0 white, if somebody is CHOSEN by it, however damp", () -> {
            SmokeVotes x = Edges.liking(0, 0);
            x.rule(0, 99);
            x.rounds(1);
            due("white", x.conclave(2), 0);
        });
        Edges.sentence("SMOKE: 3 ahead of the first round", () -> {
            SmokeVotes x = Edges.liking(0, 1);
            due("black", x.conclave(2), 3);
            x.rounds(1);
            due("grey", x.conclave(2), 1);
        });
    }

    private static void smokeOfWhom() {
        Edges.sentence("SMOKE: WET of all that voted for somebody", () -> {
            SmokeVotes x = Edges.ofKind(4, 0, 1, 2);
            x.rounds(1);
            for (int v = 0; v < 3; v++) {
                x.set(v, 4, 9);
            }
            x.rule(1, 0);
            x.rounds(1);
            due("nobody voted: nothing burns", x.conclave(2), 1);
            for (int v = 0; v < 3; v++) {
                due("the papers stay", x.told(v, 4), 9);
            }
            x.rounds(1);
            due("all voted: 27", x.conclave(2), 3);
        });
        Edges.sentence("SMOKE: RESIN alone, if nobody voted", () -> {
            int[][] rows = {{9, 1}, {10, 2}, {24, 2}, {25, 3}};
            for (int[] row : rows) {
                SmokeVotes x = Edges.ofKind(4, 0, 1, 2);
                x.rounds(1);
                x.rule(0, row[0]);
                x.rule(1, 9);
                x.rounds(1);
                due("RESIN " + row[0], x.conclave(2), row[1]);
            }
        });
        Edges.sentence("SMOKE: WET as it was ahead of the round's draws", () -> {
            for (int z = 0; z < 20; z++) {
                SmokeVotes x = Edges.liking(0, 1);
                x.seed(z);
                x.set(0, 4, 0);
                x.set(1, 4, 0);
                x.rule(0, 9);
                x.rule(1, 0);
                x.rounds(1);
                due("grey by 9", x.conclave(2), 1);
                int wet = x.told(0, 4) + x.told(1, 4) + 9;
                x.rounds(1);
                due("by what was drawn", x.conclave(2), wet < 10 ? 1 : wet < 25 ? 2 : 3);
            }
        });
        Edges.sentence("SMOKE: of the latest round, whatever comes behind it", () -> {
            SmokeVotes x = Edges.liking(0, 1);
            x.rounds(1);
            x.rule(0, 99);
            x.set(0, 4, 9);
            x.voter(0, 0, 0, 0);
            x.turns(0, 5);
            due("grey", x.conclave(2), 1);
        });
    }

    // ---- terms, part 2

    private static void round() {
        Edges.sentence("A ROUND: nothing but THE DAY, if somebody is CHOSEN", () -> {
            SmokeVotes x = Edges.liking(1, 1, 0);
            x.rounds(1);
            int z = x.count(9);
            int wind = x.conclave(3);
            x.set(0, 1, 0);
            x.set(1, 1, 0);
            due("CHOSEN stays", x.rounds(7), 1);
            due("THE DAY", x.count(1), 8);
            due("ROUNDS", x.count(2), 1);
            due("z", x.count(9), z);
            due("WIND", x.conclave(3), wind);
            due("VOTED", x.told(0, 5), 1);
            due("SMOKE", x.conclave(2), 0);
        });
        Edges.sentence("A ROUND: nothing but THE DAY, if there are no VOTERS", () -> {
            SmokeVotes x = new SmokeVotes();
            due("nobody", x.rounds(1), -1);
            due("THE DAY", x.count(1), 1);
            due("ROUNDS", x.count(2), 0);
            due("z", x.count(9), 1);
            due("SMOKE", x.conclave(2), 3);
        });
        Edges.sentence("A ROUND: all vote at once by what was ahead of it", () -> {
            SmokeVotes x = Edges.liking(0, 1, 2, 3);
            for (int v = 1; v < 4; v++) {
                x.turns(v, 2);
            }
            x.rounds(1);
            for (int v = 0; v < 4; v++) {
                due("none is swayed by votes of this round", x.told(v, 5), v);
            }
            due("all are by those of the last one", x.rounds(1), 0);
        });
        Edges.sentence("A ROUND: the one that HAS WANTED or more is CHOSEN", () -> {
            for (int all = 2; all <= 10; all++) {
                due("one less of " + all, behindFirst(all, WANTED[all] - 1).rounds(1), -1);
                due("just so many of " + all, behindFirst(all, WANTED[all]).rounds(1), 0);
                due("all of " + all, behindFirst(all, all).rounds(1), 0);
            }
            due("one of one", behindFirst(1, 1).rounds(1), 0);
        });
        Edges.sentence("A ROUND: the last VOTER is CHOSEN", () -> {
            SmokeVotes x = Edges.liking(9, 9, 9, 9, 9, 9, 9, 0, 1, 2);
            due("seven of ten", x.rounds(1), 9);
        });
        Edges.sentence("A ROUND: the round that chooses burns and draws too", () -> {
            SmokeVotes x = Edges.liking(0, 0);
            x.rounds(1);
            due("z", x.count(9), Edges.drawn(1, 3));
            due("WIND", x.conclave(3), Edges.gives(1, 1, 4));
            due("WET", x.told(1, 4), Edges.gives(1, 3, 10));
        });
    }

    private static void roundDraws() {
        Edges.sentence("A draw; WIND is its rest by 4; WET of each its rest by 10, by numbers", () -> {
            for (int z : new int[] {0, 1, -1, MIN, MAX, 987654321}) {
                SmokeVotes x = Edges.liking(9, 8, 7, 6, 5, 4, 3, 2, 1, 0);
                x.seed(z);
                x.rounds(1);
                due("WIND", x.conclave(3), Edges.gives(z, 1, 4));
                for (int v = 0; v < 10; v++) {
                    due("WET " + v, x.told(v, 4), Edges.gives(z, v + 2, 10));
                }
                due("z", x.count(9), Edges.drawn(z, 11));
            }
        });
        Edges.sentence("A draw of each that voted for somebody, and of no other", () -> {
            SmokeVotes x = Edges.ofKind(4, 0, 1, 2);
            x.turns(1, 0);
            x.rounds(1);
            int z = x.count(9);
            int[] wet = {x.told(0, 4), 0, x.told(2, 4)};
            x.rounds(1);
            due("WET 0 stays", x.told(0, 4), wet[0]);
            due("WET 1 is the second draw", x.told(1, 4), Edges.gives(z, 2, 10));
            due("WET 2 stays", x.told(2, 4), wet[2]);
            due("two draws", x.count(9), Edges.drawn(z, 2));
        });
        Edges.sentence("A draw for WIND, though nobody voted", () -> {
            SmokeVotes x = Edges.ofKind(4, 0, 1, 2);
            x.rounds(1);
            int z = x.count(9);
            x.rounds(1);
            due("one draw", x.count(9), Edges.drawn(z, 1));
            due("WIND", x.conclave(3), Edges.gives(z, 1, 4));
        });
        Edges.sentence("WIND 0 .. 3: all four come", () -> {
            int seen = 0;
            for (int z = 0; z < 64; z++) {
                SmokeVotes x = Edges.liking(0, 1);
                x.seed(z << 6);
                x.rounds(1);
                seen |= 1 << x.conclave(3);
            }
            due("four", seen, 15);
        });
    }

    // ---- 11

    private static void rounds() {
        Edges.sentence("11: n 1 .. 100", () -> {
            for (int n : new int[] {1, 2, 99, 100}) {
                SmokeVotes x = Edges.liking(0, 1);
                due("rounds " + n, x.rounds(n), -1);
                due("ROUNDS", x.count(2), n);
                due("THE DAY", x.count(1), n);
            }
            Edges.outside("rounds", 1, 100, SmokeVotes::rounds, BAD);
        });
        Edges.sentence("11: CHOSEN then, as early as it was", () -> {
            SmokeVotes x = Edges.liking(1, 1, 2, 2, 3, 3);
            x.rule(2, 3);
            due("three rounds", x.rounds(3), -1);
            due("the fourth, and 96 days", x.rounds(97), 1);
            due("ROUNDS", x.count(2), 4);
            due("THE DAY", x.count(1), 100);
        });
        Edges.sentence("11: n rounds are n times one round", () -> {
            SmokeVotes x = Edges.rich();
            SmokeVotes twin = Edges.rich();
            x.rounds(9);
            for (int i = 0; i < 9; i++) {
                twin.rounds(1);
            }
            int[] is = Edges.all(x, 0);
            int[] was = Edges.all(twin, 0);
            for (int i = 0; i < is.length; i++) {
                due("at " + i, is[i], was[i]);
            }
        });
    }

    private static void lastDay() {
        Edges.sentence("11: no more than up to 9999", () -> {
            for (int before : new int[] {9899, 9900, 9901, 9950, 9998, 9999}) {
                SmokeVotes x = Edges.onDay(before);
                x.voter(0, 0, 0, 0);
                x.voter(0, 1, 0, 0);
                due("from " + before, x.rounds(100), -1);
                int went = Math.min(100, 9999 - before);
                due("THE DAY", x.count(1), before + went);
                due("ROUNDS", x.count(2), went);
                due("z", x.count(9), Edges.drawn(1, 3 * went));
            }
        });
        Edges.sentence("11: on THE DAY 9999 nothing changes", () -> {
            Edges.refused("rounds 1", Edges::full, x -> x.rounds(1), Edges.full().conclave(0));
            Edges.refused("rounds 100", Edges::full, x -> x.rounds(100), Edges.full().conclave(0));
            SmokeVotes x = Edges.onDay(9999);
            x.voter(0, 0, 0, 0);
            due("one that would be chosen", x.rounds(1), -1);
            due("no round", x.count(2), 0);
        });
        Edges.sentence("11: days without VOTERS and days behind a choice end there too", () -> {
            SmokeVotes x = Edges.onDay(9990);
            due("none", x.rounds(100), -1);
            due("THE DAY", x.count(1), 9999);
            SmokeVotes y = Edges.onDay(9990);
            y.voter(0, 0, 0, 0);
            due("chosen", y.rounds(100), 0);
            due("THE DAY", y.count(1), 9999);
        });
        Edges.sentence("11: BAD on THE DAY 9999 too", () -> {
            due("0", Edges.full().rounds(0), BAD);
            due("101", Edges.full().rounds(101), BAD);
        });
    }

    // ---- 12

    private static void conclave() {
        Edges.sentence("12: what 0 .. 5", () -> Edges.outside("conclave", 0, 5, SmokeVotes::conclave, BAD));
        Edges.sentence("12: CHOSEN 0 and 9", () -> {
            SmokeVotes x = Edges.liking(0, 0, 0, 0, 0, 0, 0, 0, 0, 0);
            due("nobody", x.conclave(0), -1);
            x.rounds(1);
            due("0", x.conclave(0), 0);
            SmokeVotes y = Edges.liking(9, 9, 9, 9, 9, 9, 9, 9, 9, 9);
            y.rounds(1);
            due("9", y.conclave(0), 9);
        });
        Edges.sentence("12: CHOSEN stays, though votes COUNT otherwise then", () -> {
            SmokeVotes x = Edges.liking(0, 0, 2);
            x.rounds(1);
            x.turns(2, 5);
            due("WANTED", x.conclave(1), 3);
            due("HAS", x.told(0, 6), 2);
            due("CHOSEN", x.conclave(0), 0);
        });
        Edges.sentence("12: CHOSEN stays, though more VOTERS come and more are WANTED", () -> {
            SmokeVotes x = Edges.liking(0, 0, 1);
            x.rounds(1);
            due("0 by 2 of 3", x.conclave(0) + 10 * x.conclave(1), 20);
            x.voter(0, 1, 0, 0);
            due("2 of 4 are not enough: 3 are WANTED", x.conclave(1), 3);
            due("0 is CHOSEN still", x.conclave(0), 0);
            x.deal(6);
            due("0 is CHOSEN still, of ten", x.conclave(0), 0);
        });
        Edges.sentence("12: RUNNERS, as a set: all of ten", () -> due("ten", Edges.full().conclave(4), 1023));
        Edges.sentence("12: the one with the most; NONE: nobody HAS anything", () -> {
            SmokeVotes x = Edges.ofKind(4, 2, 1, 2);
            due("ahead of a round", x.conclave(5), NONE);
            x.turns(1, 0);
            x.turns(2, 0);
            x.set(2, 1, 1);
            x.set(0, 1, 0);
            x.rounds(1);
            due("CHOSEN", x.conclave(5), 1);
            SmokeVotes y = Edges.ofKind(4, 0, 1, 2);
            y.rounds(2);
            due("behind a round in which nobody voted", y.conclave(5), NONE);
        });
        Edges.sentence("12: the one with the most, though it HAS but 1", () -> {
            SmokeVotes x = Edges.ofKind(4, 0, 1, 2, 3);
            x.turns(2, 0);
            x.rounds(2);
            due("HAS", x.told(2, 6), 1);
            due("it alone", x.conclave(5), 2);
        });
        Edges.sentence("12: the one with the most, of several the least", () -> {
            SmokeVotes x = Edges.liking(9, 9, 8, 8, 7, 0, 1, 2, 3, 4);
            x.rounds(1);
            due("8 and 9", x.conclave(5), 8);
        });
        Edges.sentence("12: telling changes nothing", () -> {
            for (int what = 0; what < 6; what++) {
                int asked = what;
                int answer = Edges.rich().conclave(asked);
                Edges.refused("conclave " + what, Edges::rich, x -> x.conclave(asked), answer);
            }
        });
    }

    // ---- 13, 14

    private static void butOne() {
        Edges.sentence("13: just 1 less than WANTED", () -> {
            for (int all = 4; all <= 10; all++) {
                for (int many = 2; many <= all; many++) {
                    SmokeVotes x = behindFirst(all, many);
                    x.rounds(1);
                    due(many + " of " + all, x.butOne(), many == WANTED[all] - 1 ? 1 : 0);
                }
            }
        });
        Edges.sentence("13: several VOTERS", () -> {
            SmokeVotes x = Edges.liking(1, 1, 2, 2);
            x.rounds(1);
            due("1 and 2", x.butOne(), 6);
            SmokeVotes y = Edges.liking(0, 1, 2);
            y.rounds(1);
            due("all three", y.butOne(), 7);
        });
        Edges.sentence("13: the last VOTER", () -> {
            SmokeVotes x = Edges.liking(9, 9, 9, 9, 9, 9, 0, 1, 2, 3);
            x.rounds(1);
            due("9", x.butOne(), 512);
        });
        Edges.sentence("13: another one than the one that is CHOSEN", () -> {
            SmokeVotes x = Edges.liking(0, 0, 1);
            due("0 by 2 of 3", x.rounds(1), 0);
            due("1 HAS 1, 2 are WANTED", x.butOne(), 2);
        });
        Edges.sentence("13: nobody HAS anything", () -> {
            due("ahead of a round: 1 is WANTED of one", Edges.liking(0).butOne(), 1);
            due("2 are WANTED of two", Edges.liking(0, 0).butOne(), 0);
            due("2 are WANTED of one straw", Edges.ofKind(5, 0).butOne(), 0);
        });
        Edges.sentence("13: straw votes count twice", () -> {
            SmokeVotes x = Edges.ofKind(5, 0, 0, 2, 3);
            x.rounds(1);
            due("4 of 8, WANTED 6", x.butOne(), 0);
            x.turns(3, 0);
            due("4 of 7, WANTED 5", x.butOne(), 1);
        });
        Edges.sentence("13: nothing changes", () -> {
            int answer = Edges.rich().butOne();
            Edges.refused("butOne", Edges::rich, SmokeVotes::butOne, answer);
        });
    }

    private static void decides() {
        Edges.sentence("14: just WANTED: each that voted for it", () -> {
            for (int all = 2; all <= 10; all++) {
                SmokeVotes x = behindFirst(all, WANTED[all]);
                x.rounds(1);
                due("of " + all, x.decides(), (1 << WANTED[all]) - 1);
            }
        });
        Edges.sentence("14: 1 more than WANTED: none", () -> {
            for (int all = 3; all <= 10; all++) {
                SmokeVotes x = behindFirst(all, WANTED[all] + 1);
                x.rounds(1);
                due("of " + all, x.decides(), 0);
            }
        });
        Edges.sentence("14: 1 less than WANTED: none", () -> {
            for (int all = 2; all <= 10; all++) {
                SmokeVotes x = behindFirst(all, WANTED[all] - 1);
                x.rounds(1);
                due("of " + all, x.decides(), 0);
            }
        });
        Edges.sentence("14: 1 more than WANTED: those whose votes count twice", () -> {
            SmokeVotes x = Edges.liking(4, 4, 4, 0, 1);
            x.turns(1, 5);
            x.turns(2, 5);
            x.rounds(1);
            due("5 of 7, WANTED 5", x.decides(), 7);
            x.turns(0, 5);
            due("6 of 8, WANTED 6", x.decides(), 7);
            x.turns(3, 5);
            due("6 of 9, WANTED 6", x.decides(), 7);
            x.turns(3, 0);
            x.turns(4, 0);
            x.turns(0, 0);
            x.turns(1, 0);
            due("4 of 6, WANTED 4", x.decides(), 7);
            SmokeVotes y = Edges.liking(1, 1, 1);
            y.turns(0, 5);
            y.rounds(1);
            due("4 of 4, WANTED 3", y.decides(), 1);
        });
        Edges.sentence("14: 2 more than WANTED: not even those", () -> {
            SmokeVotes x = Edges.ofKind(5, 0, 0, 0);
            x.rounds(1);
            due("6 of 6, WANTED 4", x.decides(), 0);
        });
        Edges.sentence("14: somebody that HAS WANTED now, though nobody is CHOSEN", () -> {
            SmokeVotes x = Edges.liking(0, 0, 0, 1);
            x.turns(3, 5);
            due("3 of 5: 4 are WANTED", x.rounds(1), Edges.NOBODY);
            due("none yet", x.decides(), 0);
            x.turns(3, 0);
            due("3 of 4: 3 are WANTED", x.conclave(1), 3);
            due("each of the three", x.decides(), 7);
            due("nobody is CHOSEN by that", x.conclave(0), Edges.NOBODY);
        });
        Edges.sentence("14: the last VOTER", () -> {
            SmokeVotes x = Edges.liking(0, 1, 2, 9, 9, 9, 9, 9, 9, 9);
            x.rounds(1);
            due("3 to 9", x.decides(), 1016);
        });
        Edges.sentence("14: no round, no VOTERS, a new conclave: none", () -> {
            due("no voters", new SmokeVotes().decides(), 0);
            SmokeVotes x = Edges.liking(0, 0);
            due("no round", x.decides(), 0);
            x.rounds(1);
            due("both", x.decides(), 3);
            x.again();
            due("a new conclave", x.decides(), 0);
        });
        Edges.sentence("14: nothing changes", () -> {
            int answer = Edges.rich().decides();
            Edges.refused("decides", Edges::rich, SmokeVotes::decides, answer);
        });
    }

    // ---- 15

    /** One by one: all ways in which votes fall on c, none of which has two thirds or more. */
    private static int counted(int votes, int left, int c) {
        if (c == 0) {
            return left == 0 ? 1 : 0;
        }
        int all = 0;
        for (int part = 0; part <= left; part++) {
            if (3 * part < 2 * votes) {
                all += counted(votes, left - part, c - 1);
            }
        }
        return all;
    }

    private static void splits() {
        Edges.sentence("15: votes 0 .. 12, c 1 .. 6", () -> {
            SmokeVotes x = new SmokeVotes();
            for (int votes = 0; votes <= 12; votes++) {
                for (int c = 1; c <= 6; c++) {
                    due(votes + " among " + c, x.splits(votes, c), counted(votes, votes, c));
                }
            }
            for (int votes = 12; votes >= 0; votes--) {
                for (int c = 6; c >= 1; c--) {
                    due(votes + " among " + c + " once more", x.splits(votes, c), counted(votes, votes, c));
                }
            }
        });
        Edges.sentence("15: no votes: three times 0 is not below twice 0", () -> {
            for (int c = 1; c <= 6; c++) {
                due("among " + c, new SmokeVotes().splits(0, c), 0);
            }
        });
        Edges.sentence("15: one VOTER has all: no way", () -> {
            for (int votes = 0; votes <= 12; votes++) {
                due("of " + votes, new SmokeVotes().splits(votes, 1), 0);
            }
        });
        Edges.sentence("15: just two thirds are too many", () -> {
            due("3 among 2: 2 and 1", new SmokeVotes().splits(3, 2), 0);
            due("4 among 2: 2 and 2", new SmokeVotes().splits(4, 2), 1);
            due("6 among 2: 3 and 3", new SmokeVotes().splits(6, 2), 1);
            due("7 among 2: 4 and 3", new SmokeVotes().splits(7, 2), 2);
        });
        Edges.sentence("15: BAD: votes", () -> Edges.outside("splits of", 0, 12, (x, v) -> x.splits(v, 1), BAD));
        Edges.sentence("15: BAD: c", () -> Edges.outside("splits among", 1, 6, (x, v) -> x.splits(1, v), BAD));
        Edges.sentence("15: nothing changes",
                () -> Edges.refused("splits", Edges::rich, x -> x.splits(12, 6), 5432));
    }
}
