/** Promises 1 to 10 at their edges: a new object, voters, kinds, rules, a new conclave, lots. */
public final class EdgeVotersTest {
    private static final int BAD = Edges.BAD, NO = Edges.NO, FULL = Edges.FULL, NONE = Edges.NONE,
            NOTHING = Edges.NOTHING, KIND = Edges.KIND, MIN = Edges.MIN, MAX = Edges.MAX;
    /** Whether a voter of the first kind is one of the second. */
    private static final boolean[][] UNDER = {{true, false, false, false, false, false},
        {true, true, false, false, false, false}, {true, false, true, false, false, false},
        {true, true, false, true, false, false}, {true, false, true, false, true, false},
        {true, false, false, false, false, true}};

    public static void main(String[] args) {
        newObject();
        emptyConclave();
        voter();
        voterAnew();
        told();
        worth();
        as();
        turns();
        set();
        rule();
        again();
        deal();
        seed();
        Edges.end();
    }

    private static void due(String what, int got, int want) {
        Edges.due(what, got, want);
    }

    // ---- 1

    private static void newObject() {
        SmokeVotes x = new SmokeVotes();
        Edges.sentence("1: no VOTERS", () -> due("count", x.count(0), 0));
        Edges.sentence("1: THE DAY is 0 at first", () -> due("count", x.count(1), 0));
        Edges.sentence("1: ROUNDS are 0 at first", () -> due("count", x.count(2), 0));
        Edges.sentence("1: RESIN 0 at first", () -> due("count", x.count(3), 0));
        Edges.sentence("1: DRAFT 50 at first", () -> due("count", x.count(4), 50));
        Edges.sentence("1: RUN 10 at first", () -> due("count", x.count(5), 10));
        Edges.sentence("1: no TEXTS", () -> {
            due("count", x.count(6), 0);
            for (int key = 0; key < 3; key++) {
                due("why " + key, x.why(key), NONE);
            }
        });
        Edges.sentence("1: no numbers wait", () -> due("count", x.count(7), 0));
        Edges.sentence("1: THE TAPE has no bytes", () -> due("count", x.count(8), 0));
        Edges.sentence("1: z is 1 at first", () -> due("count", x.count(9), 1));
        Edges.sentence("1: CHOSEN is nobody at first", () -> due("conclave", x.conclave(0), -1));
        Edges.sentence("1: SMOKE is 3 ahead of the first round", () -> due("conclave", x.conclave(2), 3));
        Edges.sentence("1: WIND is 0 at first", () -> due("conclave", x.conclave(3), 0));
        Edges.sentence("1: SHEETS are MISSING at first", () -> {
            for (int s = 0; s < 4; s++) {
                due("pour " + s, x.pour(s), NOTHING);
                due("reads " + s, x.reads(s), NOTHING);
                due("fits " + s, x.fits(s, 0), NOTHING);
                due("mark " + s, x.mark(s, 0, 0), NOTHING);
                due("lay " + s, x.lay(0, 2, s), NOTHING);
                due("copy " + s, x.copy(s, 0, s, 0, 0), NOTHING);
            }
        });
        Edges.sentence("1: SLOTS hold nothing at first", () -> {
            for (int s = 0; s < 5; s++) {
                due("ask " + s, x.ask(s, 0), NOTHING);
                due("item " + s, x.item(s, 0), NOTHING);
                due("rest " + s, x.rest(s, 1), NOTHING);
                due("lay " + s, x.lay(s, 0, 0), 0);
            }
        });
        Edges.sentence("1: there is no IMAGE", () -> {
            due("back", x.back(), NO);
            due("check", x.check(1), NO);
        });
        Edges.sentence("1: objects are apart from one another", () -> {
            SmokeVotes ahead = new SmokeVotes();
            SmokeVotes full = Edges.full();
            SmokeVotes behind = new SmokeVotes();
            full.rounds(1);
            due("ten in one", full.count(0), 10);
            due("none in the one made ahead of it", ahead.count(0), 0);
            int[] is = Edges.all(ahead, 0);
            int[] later = Edges.all(behind, 0);
            int[] first = {0, 0, 0, 0, 50, 10, 0, 0, 0, 1, -1, 0, 3, 0, 0, NONE};
            for (int i = 0; i < first.length; i++) {
                due("the one made ahead, at " + i, is[i], first[i]);
                due("the one made behind, at " + i, later[i], first[i]);
            }
            due("no text", ahead.why(0), NONE);
            due("no image", ahead.back(), NO);
            due("no sheet", ahead.pour(0), NOTHING);
            due("nothing in a slot", ahead.rest(2, 1), NOTHING);
        });
    }

    private static void emptyConclave() {
        Edges.sentence("1: what is told of no VOTERS", () -> {
            SmokeVotes x = new SmokeVotes();
            due("WANTED", x.conclave(1), 0);
            due("RUNNERS", x.conclave(4), 0);
            due("the one with the most", x.conclave(5), NONE);
            due("BUT ONE", x.butOne(), 0);
            due("DECIDES", x.decides(), 0);
            due("BEHIND, CHOSEN", x.behind(100, 0), -1);
            due("BEHIND, most", x.behind(100, 1), 0);
            due("BEHIND, SMOKE", x.behind(100, 2), 3);
            due("ENDS", x.ends(), NONE);
            due("PARTY", x.party(40), NONE);
            due("SMOKES", x.smokes(12), 0xFFFFFF);
            due("fee", x.fee(), 0);
            due("keep", x.keep(), 0);
            due("back", x.back(), 0);
            due("again", x.again(), 0);
        });
        Edges.sentence("1: SHEETS of no VOTERS", () -> {
            SmokeVotes x = new SmokeVotes();
            x.sheet(0, 0, 24);
            due("pour", x.pour(0), 0);
            due("reads", x.reads(0), 0);
            due("FITS", x.fits(0, 0), 1);
            due("FITS, differences", x.fits(0, 1), 72);
        });
        Edges.sentence("1: no VOTER has a number there", () -> {
            for (int v = -1; v <= 10; v++) {
                SmokeVotes x = new SmokeVotes();
                due("told " + v, x.told(v, 0), BAD);
                due("as " + v, x.as(v, 0), BAD);
                due("turns " + v, x.turns(v, 0), BAD);
                due("set " + v, x.set(v, 1, 0), BAD);
                due("won " + v, x.won(1, v, 0), BAD);
                due("fine " + v, x.fine(v), BAD);
                due("lay " + v, x.lay(0, 1, v), BAD);
                due("behind " + v, x.behind(0, 3 + v), v < 0 ? 3 : BAD);
            }
        });
    }

    // ---- 2

    private static void voter() {
        Edges.sentence("2: VOTERS, 10 at most, numbered from 0", () -> {
            SmokeVotes x = new SmokeVotes();
            for (int v = 0; v < 10; v++) {
                due("voter " + v, x.voter(0, 0, 0, 0), v);
                due("how many", x.count(0), v + 1);
            }
            due("voter 10", x.voter(0, 0, 0, 0), FULL);
            due("ten", x.count(0), 10);
        });
        Edges.sentence("2: FULL changes nothing",
                () -> Edges.refused("voter", Edges::full, x -> x.voter(5, 9, 3, 99), FULL));
        Edges.sentence("2: KIND 0 .. 5", () -> {
            for (int kind = 0; kind < 6; kind++) {
                SmokeVotes x = new SmokeVotes();
                due("voter", x.voter(kind, 0, 0, 0), 0);
                due("told", x.told(0, 0), kind);
            }
            Edges.outside("voter of kind", 0, 5, (x, v) -> x.voter(v, 0, 0, 0), BAD);
        });
        Edges.sentence("2: LIKES 0 .. 9, itself perhaps, or one that is not there yet", () -> {
            for (int like = 0; like < 10; like++) {
                SmokeVotes x = new SmokeVotes();
                due("voter", x.voter(0, like, 0, 0), 0);
                due("told", x.told(0, 1), like);
            }
            Edges.outside("voter that likes", 0, 9, (x, v) -> x.voter(0, v, 0, 0), BAD);
        });
        Edges.sentence("2: PARTY 0 .. 3", () -> {
            for (int party = 0; party < 4; party++) {
                SmokeVotes x = new SmokeVotes();
                due("voter", x.voter(0, 0, party, 0), 0);
                due("told", x.told(0, 2), party);
            }
            Edges.outside("voter of party", 0, 3, (x, v) -> x.voter(0, 0, v, 0), BAD);
        });
        Edges.sentence("2: FAITH 0 .. 99", () -> {
            for (int faith : new int[] {0, 1, 98, 99}) {
                SmokeVotes x = new SmokeVotes();
                due("voter", x.voter(0, 0, 0, faith), 0);
                due("told", x.told(0, 3), faith);
            }
            Edges.outside("voter of faith", 0, 99, (x, v) -> x.voter(0, 0, 0, v), BAD);
        });
        Edges.sentence("2: BAD stands ahead of FULL", () -> {
            due("kind", Edges.full().voter(6, 0, 0, 0), BAD);
            due("likes", Edges.full().voter(0, 10, 0, 0), BAD);
            due("party", Edges.full().voter(0, 0, -1, 0), BAD);
            due("faith", Edges.full().voter(0, 0, 0, 100), BAD);
        });
        Edges.sentence("2: a refused VOTER takes no number", () -> {
            SmokeVotes x = new SmokeVotes();
            x.voter(0, 0, 0, 100);
            due("the next one", x.voter(0, 0, 0, 99), 0);
        });
    }

    private static void voterAnew() {
        Edges.sentence("2: WET is 3 at first, VOTED -1, HAS 0", () -> {
            SmokeVotes x = Edges.liking(0, 1);
            x.rounds(5);
            x.voter(5, 2, 0, 0);
            due("WET", x.told(2, 4), 3);
            due("VOTED", x.told(2, 5), -1);
            due("HAS", x.told(2, 6), 0);
        });
        Edges.sentence("2: one that comes counts for WANTED at once", () -> {
            SmokeVotes x = Edges.liking(0, 0, 2);
            due("of three", x.conclave(1), 2);
            x.voter(5, 0, 0, 0);
            due("of three and a straw", x.conclave(1), 4);
        });
        Edges.sentence("2: votes for a number do not wait for the one that comes", () -> {
            SmokeVotes x = Edges.liking(2, 2);
            x.rounds(1);
            due("they voted for the least", x.told(0, 6), 2);
            x.again();
            x.voter(0, 2, 0, 0);
            due("it has nothing", x.told(2, 6), 0);
            x.rounds(1);
            due("it has all", x.told(2, 6), 3);
        });
        Edges.sentence("2: a number that is taken anew begins anew", () -> {
            SmokeVotes x = Edges.liking(0);
            x.keep();
            x.voter(5, 1, 3, 99);
            x.set(1, 4, 9);
            x.rounds(1);
            x.back();
            due("its number is free", x.told(1, 0), BAD);
            due("voter", x.voter(0, 0, 0, 0), 1);
            int[] first = {0, 0, 0, 0, 3, -1, 0, 0, 1, 0};
            for (int what = 0; what < 10; what++) {
                due("told " + what, x.told(1, what), first[what]);
            }
        });
    }

    // ---- 3

    private static void told() {
        Edges.sentence("3: what 0 .. 9", () -> Edges.outside("told what", 0, 9, (x, v) -> x.told(0, v), BAD));
        Edges.sentence("3: BAD: voter", () -> {
            due("the last one", Edges.full().told(9, 0), 3);
            Edges.outside("told voter", 0, 9, (x, v) -> x.told(v, 0), BAD);
            Edges.refused("the first that is not there", Edges::rich, x -> x.told(6, 0), BAD);
            due("the last that is there", Edges.rich().told(5, 0), 5);
        });
        Edges.sentence("3: telling changes nothing", () -> {
            for (int what = 0; what < 10; what++) {
                int asked = what;
                int answer = Edges.rich().told(4, asked);
                Edges.refused("told " + what, Edges::rich, x -> x.told(4, asked), answer);
            }
        });
        Edges.sentence("3: HAS is 20 at most", () -> {
            SmokeVotes x = Edges.ofKind(5, 9, 9, 9, 9, 9, 9, 9, 9, 9, 9);
            x.rounds(1);
            due("ten straw votes", x.told(9, 6), 20);
            due("none for another", x.told(0, 6), 0);
        });
        Edges.sentence("3: VOTED, VOTES FOR: 9, the last one", () -> {
            SmokeVotes x = Edges.liking(9, 9, 9, 9, 9, 9, 9, 9, 9, 9);
            due("VOTES FOR", x.told(0, 7), 9);
            x.rounds(1);
            due("VOTED", x.told(9, 5), 9);
        });
        Edges.sentence("3: VOTED, VOTES FOR: nobody", () -> {
            SmokeVotes x = Edges.ofKind(4, 0, 1);
            x.rounds(1);
            due("VOTES FOR", x.told(0, 7), -1);
            x.rounds(1);
            due("VOTED", x.told(0, 5), -1);
        });
        Edges.sentence("3: whom it VOTES FOR, though somebody is CHOSEN", () -> {
            SmokeVotes x = Edges.liking(1, 1);
            x.rounds(1);
            x.set(0, 1, 0);
            due("VOTES FOR", x.told(0, 7), 0);
            due("VOTED", x.told(0, 5), 1);
        });
        Edges.sentence("3: COUNTS: STRAW 2, all others 1", () -> {
            for (int kind = 0; kind < 6; kind++) {
                due("kind " + kind, Edges.ofKind(kind, 0).told(0, 8), kind == 5 ? 2 : 1);
            }
        });
    }

    private static void worth() {
        int[] ofNone = {0, 6, 99, 12, 91, 2};
        int[] ofMost = {99, 105, 0, 210, -8, 2};
        for (int i = 0; i < 6; i++) {
            int kind = i;
            Edges.sentence("3: WORTH of KIND " + kind + " with FAITH 0 and 99", () -> {
                SmokeVotes x = Edges.ofKind(kind, 0);
                due("FAITH 99", x.told(0, 9), ofMost[kind]);
                x.set(0, 3, 0);
                due("FAITH 0", x.told(0, 9), ofNone[kind]);
            });
        }
    }

    // ---- 4

    private static void as() {
        for (int i = 0; i < 6; i++) {
            int kind = i;
            Edges.sentence("4: a VOTER of KIND " + kind + " as one of each KIND", () -> {
                SmokeVotes x = Edges.ofKind(kind, 0);
                for (int other = 0; other < 6; other++) {
                    due("as " + other, x.as(0, other), UNDER[kind][other] ? 99 : KIND);
                }
            });
        }
        Edges.sentence("4: FAITH 0 and 99", () -> {
            SmokeVotes x = Edges.ofKind(3, 0);
            due("99", x.as(0, 1), 99);
            x.set(0, 3, 0);
            due("0", x.as(0, 1), 0);
        });
        Edges.sentence("4: BAD: voter", () -> {
            Edges.outside("as voter", 0, 9, (x, v) -> x.as(v, 0), BAD);
            due("the first that is not there", Edges.rich().as(6, 0), BAD);
            due("the last that is there", Edges.rich().as(5, 0), 9);
        });
        Edges.sentence("4: BAD: kind", () -> Edges.outside("as kind", 0, 5, (x, v) -> x.as(0, v), BAD));
        Edges.sentence("4: BAD stands ahead of KIND", () -> {
            due("no voter, and a kind that none is of", Edges.rich().as(6, 3), BAD);
            due("a kind that there is not", Edges.rich().as(0, 6), BAD);
        });
        Edges.sentence("4: KIND changes nothing", () -> Edges.refused("as", Edges::rich, x -> x.as(0, 5), KIND));
        Edges.sentence("4: by the KIND that it turned to", () -> {
            SmokeVotes x = Edges.ofKind(3, 0);
            x.turns(0, 4);
            due("LOYAL no more", x.as(0, 1), KIND);
            due("SWAYED now", x.as(0, 2), 99);
        });
    }

    // ---- 5

    private static void turns() {
        Edges.sentence("5: from each KIND to each: what it was", () -> {
            for (int from = 0; from < 6; from++) {
                for (int to = 0; to < 6; to++) {
                    SmokeVotes x = Edges.ofKind(from, 0);
                    due("turns", x.turns(0, to), from);
                    due("is", x.told(0, 0), to);
                }
            }
        });
        Edges.sentence("5: BAD: voter, kind", () -> {
            Edges.outside("turns voter", 0, 9, (x, v) -> x.turns(v, 0), BAD);
            Edges.outside("turns kind", 0, 5, (x, v) -> x.turns(0, v), BAD);
            Edges.refused("the first that is not there", Edges::rich, x -> x.turns(6, 1), BAD);
            due("the last that is there", Edges.rich().turns(5, 1), 5);
        });
        Edges.sentence("5: to its own KIND: nothing changes",
                () -> Edges.refused("turns", Edges::rich, x -> x.turns(3, 3), 3));
        Edges.sentence("5: all else of the VOTER stays", () -> {
            SmokeVotes x = Edges.rich();
            int[] was = new int[6];
            for (int what = 1; what < 6; what++) {
                was[what] = x.told(1, what);
            }
            x.turns(1, 5);
            for (int what = 1; what < 6; what++) {
                due("told " + what, x.told(1, what), was[what]);
            }
        });
        Edges.sentence("5: its vote COUNTS as that of its KIND", () -> {
            SmokeVotes x = Edges.liking(0, 0, 2);
            x.rounds(1);
            due("WANTED", x.conclave(1), 2);
            x.turns(0, 5);
            due("HAS", x.told(0, 6), 3);
            due("WANTED with a straw", x.conclave(1), 3);
            x.turns(0, 0);
            due("HAS as before", x.told(0, 6), 2);
        });
    }

    // ---- 6

    private static void set() {
        String[] names = {"", "LIKES 0 .. 9", "PARTY 0 .. 3", "FAITH 0 .. 99", "WET 0 .. 9"};
        int[] most = {0, 9, 3, 99, 9};
        for (int i = 1; i <= 4; i++) {
            int what = i;
            Edges.sentence("6: " + names[what], () -> {
                SmokeVotes x = Edges.rich();
                int was = x.told(2, what);
                due("the last that is allowed", x.set(2, what, most[what]), was);
                due("stands", x.told(2, what), most[what]);
                due("the first that is allowed", x.set(2, what, 0), most[what]);
                due("stands", x.told(2, what), 0);
                Edges.outside("set " + what, 0, most[what], (y, v) -> y.set(2, what, v), BAD);
            });
            Edges.sentence("6: " + names[what] + ": nothing else changes", () -> {
                SmokeVotes x = Edges.ofKind(0, 1, 0);
                x.set(0, what, most[what] - 1);
                for (int other = 0; other < 6; other++) {
                    int due = other == 1 ? 1 : other == 3 ? 99 : other == 4 ? 3 : other == 5 ? -1 : 0;
                    due("told " + other, x.told(0, other), other == what ? most[what] - 1 : due);
                }
                due("of another one", x.told(1, what), what == 3 ? 99 : what == 4 ? 3 : 0);
            });
        }
        Edges.sentence("6: what 1 .. 4 (KIND and VOTED are not set)",
                () -> Edges.outside("set what", 1, 4, (x, v) -> x.set(0, v, 0), BAD));
        Edges.sentence("6: BAD: voter", () -> {
            Edges.outside("set voter", 0, 9, (x, v) -> x.set(v, 1, 0), BAD);
            Edges.refused("the first that is not there", Edges::rich, x -> x.set(6, 3, 5), BAD);
            due("the last that is there", Edges.rich().set(5, 3, 5), 9);
        });
        Edges.sentence("6: to what it is: nothing changes",
                () -> Edges.refused("set", Edges::rich, x -> x.set(0, 4, 8), 8));
    }

    // ---- 7

    private static void rule() {
        String[] names = {"RESIN 0 .. 99", "DRAFT 0 .. 99", "RUN 1 .. 99"};
        int[] was = {7, 33, 6};
        for (int i = 0; i < 3; i++) {
            int what = i;
            int least = what == 2 ? 1 : 0;
            Edges.sentence("7: " + names[what], () -> {
                SmokeVotes x = Edges.rich();
                due("the last that is allowed", x.rule(what, 99), was[what]);
                due("stands", x.count(3 + what), 99);
                due("the first that is allowed", x.rule(what, least), 99);
                due("stands", x.count(3 + what), least);
                for (int other = 0; other < 3; other++) {
                    due("rule " + other, x.count(3 + other), other == what ? least : was[other]);
                }
                Edges.outside("rule " + what, least, 99, (y, v) -> y.rule(what, v), BAD);
            });
        }
        Edges.sentence("7: what 0 .. 2", () -> Edges.outside("rule what", 0, 2, (x, v) -> x.rule(v, 1), BAD));
        Edges.sentence("7: to what it is: nothing changes",
                () -> Edges.refused("rule", Edges::rich, x -> x.rule(2, 6), 6));
        Edges.sentence("7: SMOKE of the latest round stays", () -> {
            SmokeVotes x = Edges.liking(0, 1);
            x.rounds(1);
            due("grey", x.conclave(2), 1);
            x.rule(0, 99);
            due("grey still", x.conclave(2), 1);
        });
    }

    // ---- 8

    private static void again() {
        Edges.sentence("8: ahead of the first round: 0, and nothing changes", () -> {
            Edges.refused("again (new)", SmokeVotes::new, SmokeVotes::again, 0);
            Edges.refused("again (voters)", () -> Edges.liking(0, 1), SmokeVotes::again, 0);
        });
        Edges.sentence("8: how many ROUNDS there were", () -> {
            SmokeVotes x = Edges.liking(0, 1);
            x.rounds(100);
            x.rounds(1);
            due("again", x.again(), 101);
            due("again once more", x.again(), 0);
        });
        Edges.sentence("8: 9999 ROUNDS at most", () -> {
            SmokeVotes x = Edges.liking(0, 1);
            for (int i = 0; i < 100; i++) {
                x.rounds(100);
            }
            due("again", x.again(), 9999);
            due("THE DAY stays", x.count(1), 9999);
        });
        Edges.sentence("8: nobody is CHOSEN, ROUNDS are 0, SMOKE is 3", () -> {
            SmokeVotes x = Edges.liking(1, 1);
            x.rounds(1);
            due("chosen", x.conclave(0), 1);
            due("white", x.conclave(2), 0);
            x.again();
            due("CHOSEN", x.conclave(0), -1);
            due("ROUNDS", x.count(2), 0);
            due("SMOKE", x.conclave(2), 3);
        });
        Edges.sentence("8: nobody VOTED, so that nobody HAS anything", () -> {
            SmokeVotes x = Edges.full();
            x.again();
            for (int v = 0; v < 10; v++) {
                due("VOTED " + v, x.told(v, 5), -1);
                due("HAS " + v, x.told(v, 6), 0);
            }
            due("the one with the most", x.conclave(5), NONE);
            due("all run", x.conclave(4), 1023);
        });
        Edges.sentence("8: all else stays", () -> {
            SmokeVotes x = Edges.rich();
            SmokeVotes twin = Edges.rich();
            x.again();
            for (int what = 0; what < 10; what++) {
                due("count " + what, x.count(what), what == 2 ? 0 : twin.count(what));
            }
            due("WIND", x.conclave(3), twin.conclave(3));
            for (int v = 0; v < 6; v++) {
                for (int what = 0; what < 5; what++) {
                    due("told " + v + " " + what, x.told(v, what), twin.told(v, what));
                }
            }
            due("THE IMAGE", x.back(), 6);
            due("and its rounds", x.count(2), 2);
        });
        Edges.sentence("8: SICK votes again, RUN counts anew", () -> {
            SmokeVotes x = Edges.ofKind(4, 0, 1, 2);
            x.rule(2, 1);
            x.rounds(1);
            due("two run", x.conclave(4), 3);
            due("nobody", x.told(2, 7), -1);
            x.again();
            due("all run", x.conclave(4), 7);
            due("itself", x.told(2, 7), 2);
        });
    }

    // ---- 9

    private static void deal() {
        Edges.sentence("9: n 1 .. 10", () -> {
            due("1", new SmokeVotes().deal(1), 1);
            due("10", new SmokeVotes().deal(10), 10);
            Edges.outside("deal", 1, 10, SmokeVotes::deal, BAD);
        });
        Edges.sentence("9: as many as there is room for", () -> {
            for (int there = 0; there <= 10; there++) {
                for (int n = 1; n <= 10; n++) {
                    SmokeVotes x = Edges.liking(new int[there]);
                    int room = 10 - there;
                    due("deal " + n + " with " + there, x.deal(n), Math.min(n, room));
                    due("how many", x.count(0), there + Math.min(n, room));
                }
            }
        });
        Edges.sentence("9: no draws for others", () -> {
            SmokeVotes x = Edges.liking(0, 0, 0, 0, 0, 0, 0, 0, 0);
            due("one came", x.deal(10), 1);
            due("four draws", x.count(9), Edges.drawn(1, 4));
        });
        Edges.sentence("9: no room: 0, and nothing changes",
                () -> Edges.refused("deal", Edges::full, x -> x.deal(10), 0));
        Edges.sentence("9: KIND, LIKES, PARTY, FAITH by draws, one behind the other", () -> {
            for (int z : new int[] {0, 1, -1, MIN, MAX, 123456789}) {
                SmokeVotes x = new SmokeVotes();
                x.seed(z);
                x.deal(10);
                int[] by = {6, 10, 4, 100};
                for (int v = 0; v < 10; v++) {
                    for (int what = 0; what < 4; what++) {
                        due(v + " told " + what, x.told(v, what), Edges.gives(z, 4 * v + what + 1, by[what]));
                    }
                    due(v + " WET", x.told(v, 4), 3);
                    due(v + " VOTED", x.told(v, 5), -1);
                }
                due("z", x.count(9), Edges.drawn(z, 40));
            }
        });
        Edges.sentence("9: z is negative: what a draw gives is not", () -> {
            boolean below = false;
            for (int z = 0; z < 50; z++) {
                SmokeVotes x = new SmokeVotes();
                x.seed(z);
                x.deal(1);
                below |= Edges.drawn(z, 4) < 0;
                due("FAITH", x.told(0, 3), Edges.gives(z, 4, 100));
                due("within 0 .. 99", x.told(0, 3) >= 0 && x.told(0, 3) <= 99 ? 1 : 0, 1);
            }
            due("such a z was among them", below ? 1 : 0, 1);
        });
        Edges.sentence("9: behind those that are there", () -> {
            SmokeVotes x = Edges.ofKind(5, 7);
            due("two came", x.deal(2), 2);
            due("the first is as it was", x.told(0, 1), 7);
            due("the second is drawn", x.told(1, 1), Edges.gives(1, 2, 10));
        });
    }

    // ---- 10

    private static void seed() {
        Edges.sentence("10: z becomes any v: what it was", () -> {
            SmokeVotes x = new SmokeVotes();
            int was = 1;
            for (int v : new int[] {0, -1, MIN, MAX, BAD, NONE, 1}) {
                due("seed " + v, x.seed(v), was);
                due("z", x.count(9), v);
                was = v;
            }
        });
        Edges.sentence("10: z wraps as an int does", () -> {
            SmokeVotes x = Edges.liking(0, 1);
            x.seed(MAX);
            x.rounds(1);
            due("three draws", x.count(9), (int) wrapped(MAX, 3));
        });
        Edges.sentence("10: nothing else changes", () -> {
            SmokeVotes x = Edges.rich();
            x.seed(5);
            x.seed(-77);
            int[] is = Edges.all(x, 0);
            int[] was = Edges.all(Edges.rich(), 0);
            for (int i = 0; i < is.length; i++) {
                due("at " + i, is[i], was[i]);
            }
        });
    }

    /** Draws worked out without a wrap, then cut to 32 bits. */
    private static long wrapped(long z, int times) {
        java.math.BigInteger at = java.math.BigInteger.valueOf(z);
        for (int i = 0; i < times; i++) {
            at = at.multiply(java.math.BigInteger.valueOf(1103515245)).add(java.math.BigInteger.valueOf(12345));
        }
        return at.longValue();
    }
}
