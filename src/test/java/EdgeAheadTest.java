/** Promises 16 to 23 at their edges: what is thought ahead, fee and fine. */
public final class EdgeAheadTest {
    private static final int BAD = Edges.BAD, NONE = Edges.NONE, NOTHING = Edges.NOTHING, MIN = Edges.MIN;

    public static void main(String[] args) {
        behind();
        behindAsRounds();
        ends();
        won();
        wonOfSeveral();
        party();
        partyOfSeveral();
        smokes();
        fits();
        fitsByPlaces();
        fee();
        fine();
        Edges.end();
    }

    private static void due(String what, int got, int want) {
        Edges.due(what, got, want);
    }

    private static SmokeVotes threePairs() {
        return Edges.liking(1, 1, 2, 2, 3, 3);
    }

    /** Four that stand two to two until ROUNDS are so many, and are swayed from then on. */
    private static SmokeVotes swayedFrom(int rounds) {
        SmokeVotes x = Edges.ofKind(2, 0, 0, 1, 1);
        x.rule(2, 99);
        StringBuilder text = new StringBuilder("sway 99*(r<").append(rounds).append(")");
        Edges.tellText(x, text.toString());
        return x;
    }

    // ---- 16

    private static void behind() {
        Edges.sentence("16: n 0 .. 100", () -> {
            due("0", Edges.rich().behind(0, 2), Edges.rich().conclave(2));
            due("100", swayedFrom(99).behind(100, 0), 0);
            due("99", swayedFrom(99).behind(99, 0), -1);
            Edges.outside("behind", 0, 100, (x, v) -> x.behind(v, 0), BAD);
        });
        Edges.sentence("16: what 0 .. 2, 3 and k", () -> {
            due("the last of ten", Edges.full().behind(0, 12), Edges.full().told(9, 5));
            due("the last of six", Edges.rich().behind(0, 8), Edges.rich().told(5, 5));
            Edges.refused("the first that is not there", Edges::rich, x -> x.behind(0, 9), BAD);
            Edges.outside("behind what", 0, 12, (x, v) -> x.behind(0, v), BAD);
            due("VOTER 0 of none", new SmokeVotes().behind(0, 3), BAD);
        });
        Edges.sentence("16: BEHIND 0 ROUNDS: as it is now", () -> {
            SmokeVotes x = Edges.rich();
            due("CHOSEN", x.behind(0, 0), x.conclave(0));
            due("the most", x.behind(0, 1), x.told(x.conclave(5), 6));
            due("SMOKE", x.behind(0, 2), x.conclave(2));
            for (int v = 0; v < 6; v++) {
                due("VOTED " + v, x.behind(0, 3 + v), x.told(v, 5));
            }
        });
        Edges.sentence("16: BEHIND 0 ROUNDS ahead of the first one", () -> {
            SmokeVotes x = threePairs();
            due("CHOSEN", x.behind(0, 0), -1);
            due("the most", x.behind(0, 1), 0);
            due("SMOKE", x.behind(0, 2), 3);
            due("VOTED", x.behind(0, 3), -1);
        });
        Edges.sentence("16: what the one with the most HAS (0: nobody)", () -> {
            SmokeVotes x = Edges.ofKind(4, 0, 1, 2);
            due("one each", x.behind(1, 1), 1);
            due("nobody voted", x.behind(2, 1), 0);
            due("VOTED for nobody", x.behind(2, 5), -1);
            SmokeVotes y = Edges.ofKind(5, 9, 9, 9, 9, 9, 9, 9, 9, 9, 9);
            due("all that can be", y.behind(1, 1), 20);
        });
        Edges.sentence("16: nothing changes, z as it is", () -> {
            int answer = Edges.rich().behind(100, 1);
            Edges.refused("behind", Edges::rich, x -> x.behind(100, 1), answer);
            SmokeVotes x = Edges.rich();
            due("the same twice", x.behind(100, 1), x.behind(100, 1));
        });
    }

    private static void behindAsRounds() {
        Edges.sentence("16: BEHIND n ROUNDS is what n ROUNDS leave", () -> {
            for (int n : new int[] {1, 2, 3, 7, 50, 99, 100}) {
                SmokeVotes x = Edges.rich();
                SmokeVotes went = Edges.rich();
                went.rounds(n);
                due("CHOSEN behind " + n, x.behind(n, 0), went.conclave(0));
                due("SMOKE behind " + n, x.behind(n, 2), went.conclave(2));
                for (int v = 0; v < 6; v++) {
                    due("VOTED behind " + n, x.behind(n, 3 + v), went.told(v, 5));
                }
            }
        });
        Edges.sentence("16: without the bound of THE DAY", () -> {
            SmokeVotes x = Edges.onDay(9999);
            x.voter(0, 1, 0, 0);
            x.voter(0, 1, 0, 0);
            due("no ROUND comes", x.rounds(1), -1);
            due("one is thought", x.behind(1, 0), 1);
            due("a hundred are thought", x.behind(100, 1), 2);
            due("ENDS", x.ends(), 1);
            due("WON", x.won(40, 1, 1), 2);
            due("PARTY", x.party(40), 0);
            due("SMOKES", x.smokes(12), 0);
            x.sheet(0, 0, 2);
            due("FITS", x.fits(0, 1), 0);
            due("THE DAY", x.count(1), 9999);
        });
        Edges.sentence("16: somebody is CHOSEN: that one behind all ROUNDS", () -> {
            SmokeVotes x = Edges.liking(1, 1, 0);
            x.rounds(1);
            x.set(0, 1, 0);
            x.set(1, 1, 0);
            due("CHOSEN", x.behind(100, 0), 1);
            due("the most", x.behind(100, 1), 2);
            due("white", x.behind(100, 2), 0);
            due("VOTED", x.behind(100, 3), 1);
        });
    }

    // ---- 17

    private static void ends() {
        Edges.sentence("17: behind 0: somebody is CHOSEN", () -> {
            SmokeVotes x = Edges.liking(0, 0);
            due("not yet", x.ends(), 1);
            x.rounds(1);
            due("now", x.ends(), 0);
        });
        Edges.sentence("17: behind 100: the last", () -> {
            due("98", swayedFrom(97).ends(), 98);
            due("99", swayedFrom(98).ends(), 99);
            due("100", swayedFrom(99).ends(), 100);
        });
        Edges.sentence("17: NONE: not by then", () -> {
            SmokeVotes x = swayedFrom(100);
            due("behind 101", x.ends(), NONE);
            due("nor by 100", x.behind(100, 0), -1);
            x.rounds(1);
            due("one nearer", x.ends(), 100);
            due("never", Edges.liking(0, 1).ends(), NONE);
        });
        Edges.sentence("17: RUN 99: behind 100", () -> {
            SmokeVotes x = threePairs();
            x.rule(2, 99);
            due("ENDS", x.ends(), 100);
        });
        Edges.sentence("17: no VOTERS: NONE", () -> due("ENDS", new SmokeVotes().ends(), NONE));
        Edges.sentence("17: nothing changes", () -> {
            int answer = Edges.rich().ends();
            Edges.refused("ends", Edges::rich, SmokeVotes::ends, answer);
        });
    }

    // ---- 18

    private static void won() {
        Edges.sentence("18: n 1 .. 40", () -> {
            SmokeVotes x = swayedFrom(39);
            due("40: all are swayed by then", x.won(40, 0, 1), 4);
            due("39: not yet", x.won(39, 1, 1), 3);
            due("1", x.won(1, 0, 1), 3);
            Edges.outside("won", 1, 40, (y, v) -> y.won(v, 0, 0), BAD);
        });
        Edges.sentence("18: BAD: voter", () -> {
            due("the last of six", Edges.rich().won(1, 5, 1) >= 0 ? 1 : 0, 1);
            Edges.refused("the first that is not there", Edges::rich, x -> x.won(1, 6, 0), BAD);
            Edges.outside("won voter", 0, 9, (x, v) -> x.won(1, v, 0), BAD);
        });
        Edges.sentence("18: BAD: what 0 .. 1",
                () -> Edges.outside("won what", 0, 1, (x, v) -> x.won(1, 0, v), BAD));
        Edges.sentence("18: nothing changes", () -> {
            int one = Edges.rich().won(40, 5, 0);
            int most = Edges.rich().won(40, 5, 1);
            Edges.refused("won 0", Edges::rich, x -> x.won(40, 5, 0), one);
            Edges.refused("won 1", Edges::rich, x -> x.won(40, 5, 1), most);
        });
    }

    private static void wonOfSeveral() {
        Edges.sentence("18: of several the least", () -> {
            due("none helps", Edges.liking(0, 0, 0).won(1, 0, 0), 0);
            due("two help", Edges.liking(0, 1, 1).won(1, 0, 0), 1);
            due("the most with either", Edges.liking(0, 1, 1).won(1, 0, 1), 2);
        });
        Edges.sentence("18: it may be that VOTER itself", () -> {
            due("it LIKED another", Edges.liking(1, 1, 0).won(1, 0, 0), 0);
            due("what it HAS then", Edges.liking(1, 1, 0).won(1, 0, 1), 2);
            due("a single one", Edges.liking(9).won(1, 0, 0), 0);
        });
        Edges.sentence("18: the last of ten", () -> {
            SmokeVotes x = Edges.liking(3, 3, 3, 3, 3, 3, 3, 3, 3, 9);
            due("9", x.won(1, 3, 0), 9);
            due("ten", x.won(1, 3, 1), 10);
        });
        Edges.sentence("18: leaves most, not just more", () -> {
            SmokeVotes x = Edges.liking(1, 1, 2, 3, 4);
            x.turns(4, 5);
            due("the straw", x.won(1, 0, 0), 4);
            due("two", x.won(1, 0, 1), 2);
        });
        Edges.sentence("18: HAS 0: none can", () -> {
            SmokeVotes x = new SmokeVotes();
            for (int v = 0; v < 10; v++) {
                x.voter(1, 9, 0, 0);
            }
            due("the least", x.won(40, 9, 0), 0);
            due("nothing", x.won(40, 9, 1), 0);
        });
        Edges.sentence("18: somebody is CHOSEN: what it HAS now", () -> {
            SmokeVotes x = Edges.liking(1, 1, 0);
            x.rounds(1);
            due("the least", x.won(40, 0, 0), 0);
            due("one", x.won(40, 0, 1), 1);
            due("two", x.won(40, 1, 1), 2);
        });
    }

    // ---- 19

    private static void party() {
        Edges.sentence("19: n 1 .. 40", () -> {
            due("1", Edges.liking(0).party(1), 0);
            due("40", swayedFrom(39).party(40), 0);
            due("39", swayedFrom(39).party(39), NONE);
            due("41 would be", swayedFrom(40).party(40), NONE);
            Edges.outside("party", 1, 40, SmokeVotes::party, BAD);
        });
        Edges.sentence("19: PARTY 0 .. 3", () -> {
            for (int party = 0; party < 4; party++) {
                SmokeVotes x = Edges.liking(0);
                x.set(0, 2, party);
                due("of " + party, x.party(1), party);
            }
        });
        Edges.sentence("19: NONE: none", () -> {
            due("at odds", Edges.liking(0, 1).party(40), NONE);
            due("no VOTERS", new SmokeVotes().party(1), NONE);
        });
        Edges.sentence("19: somebody is CHOSEN: the PARTY of that one now", () -> {
            SmokeVotes x = Edges.liking(0, 0);
            x.rounds(1);
            x.set(0, 2, 3);
            due("3", x.party(1), 3);
        });
        Edges.sentence("19: nothing changes", () -> {
            int answer = Edges.rich().party(40);
            Edges.refused("party", Edges::rich, x -> x.party(40), answer);
        });
    }

    /**
     * Two pairs, each with a whip that stands by itself if it is told, and six that go to the first
     * with the most: whichever pair is told brings in its whip.
     */
    private static SmokeVotes twoWhips(int one, int other) {
        SmokeVotes x = new SmokeVotes();
        x.voter(0, 1, one, 0);
        x.voter(3, 0, one, 0);
        x.voter(0, 3, other, 0);
        x.voter(3, 0, other, 0);
        for (int v = 4; v < 10; v++) {
            x.voter(2, v, 0, 0);
        }
        return x;
    }

    private static void partyOfSeveral() {
        Edges.sentence("19: of several the least", () -> {
            due("1 and 2", twoWhips(1, 2).party(2), 1);
            due("3 and 2: not the first by VOTERS", twoWhips(3, 2).party(2), 2);
            due("2 and 3", twoWhips(2, 3).party(2), 2);
        });
        Edges.sentence("19: if all its VOTERS had FAITH 99", () -> {
            SmokeVotes x = twoWhips(3, 2);
            due("untold, one of 3 comes in", x.told(x.behind(2, 0), 2), 3);
            due("told, 2 does", x.party(2), 2);
            due("behind one round none does", x.party(1), NONE);
        });
        Edges.sentence("19: one of its VOTERS, not another's", () -> {
            SmokeVotes x = Edges.liking(1, 1);
            x.set(0, 2, 2);
            x.set(1, 2, 3);
            due("2 told leaves one of 3", x.party(1), 3);
        });
        Edges.sentence("19: all its VOTERS, the first and the last too", () -> {
            SmokeVotes x = Edges.liking(0, 1, 1, 3);
            x.turns(0, 3);
            x.set(3, 2, 2);
            x.rounds(1);
            due("untold, 1 comes in", x.behind(1, 0), 1);
            due("told, 0 stands by itself", x.party(1), NONE);
            SmokeVotes y = Edges.liking(0, 0, 2, 3, 0, 0, 0, 0, 0, 0);
            for (int v = 0; v < 10; v++) {
                y.set(v, 1, v < 6 ? 8 : v == 8 ? 0 : v);
                y.set(v, 2, v >= 8 ? 1 : 0);
            }
            y.turns(9, 3);
            due("untold, 9 is for 8: seven of ten", y.behind(1, 0), 8);
            due("told, 9 is for itself", y.party(1), NONE);
        });
        Edges.sentence("19: FAITH 99 also turns VOTERS away", () -> {
            SmokeVotes x = Edges.ofKind(2, 0, 0, 1, 1);
            for (int v = 0; v < 4; v++) {
                x.set(v, 3, 0);
            }
            due("untold, the first comes in", x.behind(2, 0), 0);
            due("told, they stand two to two", x.party(2), NONE);
        });
    }

    // ---- 20

    private static void smokes() {
        Edges.sentence("20: n 1 .. 12", () -> {
            SmokeVotes x = threePairs();
            x.rule(0, 99);
            x.rule(2, 99);
            int row = 0;
            for (int n = 1; n <= 12; n++) {
                row = row * 4 + 3;
                due("black " + n + " times", x.smokes(n), row);
            }
            Edges.outside("smokes", 1, 12, SmokeVotes::smokes, BAD);
        });
        Edges.sentence("20: the first the highest", () -> {
            SmokeVotes x = threePairs();
            x.rule(2, 1);
            due("dark, white", x.smokes(2), 8);
            due("dark, white, white", x.smokes(3), 32);
            due("dark, eleven times white", x.smokes(12), 2 << 22);
        });
        Edges.sentence("20: as BEHIND tells them, one behind the other", () -> {
            SmokeVotes x = Edges.rich();
            int row = 0;
            for (int n = 1; n <= 12; n++) {
                row = row * 4 + x.behind(n, 2);
                due("behind " + n, x.smokes(n), row);
            }
        });
        Edges.sentence("20: somebody is CHOSEN: white from then on", () -> {
            SmokeVotes x = Edges.liking(0, 0);
            x.rounds(1);
            due("white", x.smokes(12), 0);
        });
        Edges.sentence("20: no VOTERS: 3, as ahead of the first round",
                () -> due("black", new SmokeVotes().smokes(1), 3));
        Edges.sentence("20: nothing changes", () -> {
            int answer = Edges.rich().smokes(12);
            Edges.refused("smokes", Edges::rich, x -> x.smokes(12), answer);
        });
    }

    // ---- 21

    private static void fits() {
        Edges.sentence("21: BAD: sheet", () -> Edges.outside("fits", 0, 3, (x, v) -> x.fits(v, 0), BAD));
        Edges.sentence("21: BAD: what", () -> Edges.outside("fits what", 0, 1, (x, v) -> x.fits(0, v), BAD));
        Edges.sentence("21: NOTHING", () -> Edges.refused("fits", Edges::rich, x -> x.fits(3, 0), NOTHING));
        Edges.sentence("21: BAD stands ahead of NOTHING", () -> {
            due("what 2", Edges.rich().fits(3, 2), BAD);
            due("what -1", Edges.rich().fits(3, -1), BAD);
        });
        Edges.sentence("21: no places: the least RUN, no differences", () -> {
            due("RUN", Edges.rich().fits(2, 0), 1);
            due("differences", Edges.rich().fits(2, 1), 0);
        });
        Edges.sentence("21: no numbers: the least RUN, no differences", () -> {
            SmokeVotes x = threePairs();
            x.sheet(0, 1, 24);
            for (int place = 0; place < 24; place++) {
                x.mark(0, place, Edges.NONE);
            }
            due("RUN", x.fits(0, 0), 1);
            due("differences", x.fits(0, 1), 0);
        });
        Edges.sentence("21: nothing changes, RUN neither", () -> {
            int run = Edges.rich().fits(0, 0);
            int differences = Edges.rich().fits(1, 1);
            Edges.refused("fits 0", Edges::rich, x -> x.fits(0, 0), run);
            Edges.refused("fits 1", Edges::rich, x -> x.fits(1, 1), differences);
        });
    }

    /** Three pairs and much resin: black in the first RUN rounds, white from the next one on. */
    private static SmokeVotes blackUntil(int run, int sort) {
        SmokeVotes x = threePairs();
        x.rule(0, 99);
        x.sheet(0, sort, 24);
        for (int place = 0; place < 24; place++) {
            x.mark(0, place, place < run ? 3 : 0);
        }
        return x;
    }

    private static void fitsByPlaces() {
        Edges.sentence("21: the RUN 1 .. 20", () -> {
            for (int run = 1; run <= 20; run++) {
                for (int sort = 0; sort < 2; sort++) {
                    SmokeVotes x = blackUntil(run, sort);
                    due("RUN", x.fits(0, 0), run);
                    due("differences", x.fits(0, 1), 0);
                }
            }
        });
        Edges.sentence("21: RUN 0 and 21 would fit better", () -> {
            due("0: the least", blackUntil(0, 0).fits(0, 0), 1);
            due("one place differs by 3", blackUntil(0, 0).fits(0, 1), 3);
            due("21: the most", blackUntil(21, 0).fits(0, 0), 20);
            due("one place differs by 3", blackUntil(21, 0).fits(0, 1), 3);
            due("24: the most", blackUntil(24, 0).fits(0, 0), 20);
            due("four places differ by 3", blackUntil(24, 0).fits(0, 1), 12);
        });
        Edges.sentence("21: of several the least", () -> {
            SmokeVotes x = blackUntil(20, 1);
            for (int place = 4; place < 24; place++) {
                x.mark(0, place, Edges.NONE);
            }
            due("4 to 20 fit", x.fits(0, 0), 4);
            SmokeVotes y = blackUntil(5, 0);
            y.mark(0, 4, 1);
            due("5 differs by 2, 4 by 1", y.fits(0, 0), 4);
            y.mark(0, 4, 2);
            due("5 differs by 1, 4 by 2", y.fits(0, 0), 5);
        });
        Edges.sentence("21: a place of NO NUMBER has its ROUND all the same", () -> {
            SmokeVotes x = blackUntil(5, 1);
            for (int place = 0; place < 4; place++) {
                x.mark(0, place, Edges.NONE);
            }
            due("place 4 is of the fifth ROUND", x.fits(0, 0), 5);
            due("none differs", x.fits(0, 1), 0);
        });
        Edges.sentence("21: signs left out", () -> {
            SmokeVotes x = blackUntil(5, 1);
            x.mark(0, 0, -2);
            due("3 and -2", x.fits(0, 1), 5);
            x.mark(0, 23, -7);
            due("0 and -7", x.fits(0, 1), 12);
            x.mark(0, 23, 7);
            due("0 and 7", x.fits(0, 1), 12);
        });
        Edges.sentence("21: numbers at their most", () -> {
            SmokeVotes x = blackUntil(20, 1);
            SmokeVotes y = blackUntil(20, 0);
            for (int place = 0; place < 24; place++) {
                x.mark(0, place, place % 2 == 0 ? 99999 : -99999);
                y.mark(0, place, place % 2 == 0 ? 32767 : -32768);
            }
            // A place below 0 differs by 3 more where it is black, one above by 3 less.
            due("RUN of floats", x.fits(0, 0), 1);
            due("floats", x.fits(0, 1), 24 * 99999 - 3);
            due("RUN of shorts", y.fits(0, 0), 1);
            due("shorts", y.fits(0, 1), 12 * 32767 + 12 * 32768 - 3);
        });
        Edges.sentence("21: one place: the first ROUND from now on", () -> {
            SmokeVotes x = threePairs();
            x.rule(0, 99);
            x.rounds(1);
            x.sheet(0, 0, 1);
            due("RUN 1 is there: white", x.fits(0, 0), 1);
            due("none differs", x.fits(0, 1), 0);
            x.mark(0, 0, 3);
            due("RUN 2: black", x.fits(0, 0), 2);
            due("none differs", x.fits(0, 1), 0);
        });
    }

    // ---- 22, 23

    private static void fee() {
        Edges.sentence("22: without a TEXT: ROUNDS", () -> {
            SmokeVotes x = Edges.liking(0, 1);
            due("0", x.fee(), 0);
            x.rounds(100);
            due("100", x.fee(), 100);
            Edges.tellText(x, "fine 1");
            Edges.tellText(x, "sway 1");
            due("other TEXTS do not count", x.fee(), 100);
            x.again();
            due("0 again", x.fee(), 0);
        });
        Edges.sentence("22: what fee gives is held within nothing", () -> {
            SmokeVotes x = new SmokeVotes();
            Edges.tellText(x, "fee 1024*1024*2048");
            due("the least int", x.fee(), MIN);
            Edges.tellText(x, "fee 1024*1024*2048-1");
            due("the greatest int", x.fee(), Edges.MAX);
            Edges.tellText(x, "fee 0-1");
            due("-1", x.fee(), -1);
        });
        Edges.sentence("22: r ROUNDS, w WIND", () -> {
            SmokeVotes x = Edges.liking(0, 1);
            Edges.tellText(x, "fee r*10+w");
            due("at first", x.fee(), 0);
            boolean blew = false;
            for (int n = 1; n <= 9; n++) {
                x.rounds(1);
                due("behind " + n, x.fee(), n * 10 + x.conclave(3));
                blew |= x.conclave(3) == 3;
            }
            due("WIND 3 was among them", blew ? 1 : 0, 1);
        });
        Edges.sentence("22: nothing changes", () -> Edges.refused("fee", Edges::rich, SmokeVotes::fee, 3));
    }

    private static void fine() {
        Edges.sentence("23: without a TEXT: WET", () -> {
            SmokeVotes x = Edges.liking(0, 1);
            due("3 at first", x.fine(0), 3);
            x.set(0, 4, 9);
            due("9", x.fine(0), 9);
            x.set(0, 4, 0);
            due("0", x.fine(0), 0);
            Edges.tellText(x, "fee 1");
            Edges.tellText(x, "sway 1");
            due("other TEXTS do not count", x.fine(1), 3);
        });
        Edges.sentence("23: f FAITH, w WET, of that VOTER", () -> {
            SmokeVotes x = Edges.liking(0, 1);
            x.set(0, 3, 99);
            x.set(0, 4, 0);
            x.set(1, 4, 9);
            Edges.tellText(x, "fine f*10+w");
            due("of the first", x.fine(0), 990);
            due("of the second", x.fine(1), 9);
        });
        Edges.sentence("23: BAD: voter", () -> {
            due("the last of six", Edges.rich().fine(5), 9 - Edges.rich().told(5, 4));
            Edges.refused("the first that is not there", Edges::rich, x -> x.fine(6), BAD);
            Edges.outside("fine", 0, 9, SmokeVotes::fine, BAD);
        });
        Edges.sentence("23: nothing changes", () -> Edges.refused("fine", Edges::rich, x -> x.fine(0), 12));
    }
}
