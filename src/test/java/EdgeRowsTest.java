/** Promises 38 to 42 at their edges: numbers that wait, rows that are checked, images, counts. */
public final class EdgeRowsTest {
    private static final int BAD = Edges.BAD, NO = Edges.NO, FULL = Edges.FULL, NONE = Edges.NONE, MIN = Edges.MIN,
            MAX = Edges.MAX;

    public static void main(String[] args) {
        tell();
        checkRefusals();
        checkRows();
        checkLengths();
        checkLastDays();
        checkByImage();
        keep();
        back();
        backLeaves();
        backTexts();
        count();
        Edges.end();
    }

    private static void due(String what, int got, int want) {
        Edges.due(what, got, want);
    }

    /** Three pairs, of which two run from the second round on: dark with 2, then white with 4. */
    private static SmokeVotes threePairs() {
        SmokeVotes x = Edges.liking(1, 1, 2, 2, 3, 3);
        x.rule(2, 1);
        return x;
    }

    private static int checked(SmokeVotes x, int n, int... rows) {
        for (int v : rows) {
            x.tell(v);
        }
        int answer = x.check(n);
        due("none wait then", x.count(7), 0);
        return answer;
    }

    /** The right rows of three pairs, so many numbers of them. */
    private static int[] right(int many) {
        int[] rows = new int[many];
        for (int i = 0; i < many; i++) {
            rows[i] = i < 2 ? 2 : i % 2 == 0 ? 0 : 4;
        }
        return rows;
    }

    // ---- 38

    private static void tell() {
        Edges.sentence("38: one more number waits: how many, 60 at most", () -> {
            SmokeVotes x = new SmokeVotes();
            for (int i = 1; i <= 60; i++) {
                due("tell", x.tell(i % 2 == 0 ? MIN : MAX), i);
                due("count", x.count(7), i);
            }
            due("the 61st", x.tell(0), FULL);
            due("count", x.count(7), 60);
        });
        Edges.sentence("38: FULL changes nothing", () -> {
            Edges.refused("tell", Edges::full, x -> x.tell(5), FULL);
            Edges.refused("tell, the row being right", () -> {
                SmokeVotes x = threePairs();
                x.keep();
                for (int v : right(60)) {
                    x.tell(v);
                }
                return x;
            }, x -> x.tell(9), FULL);
        });
        Edges.sentence("38: any number waits", () -> {
            for (int v : new int[] {MIN, -1, 0, MAX, BAD, NONE}) {
                due("tell " + v, new SmokeVotes().tell(v), 1);
            }
        });
        Edges.sentence("38: behind a check they are told anew", () -> {
            SmokeVotes x = threePairs();
            x.keep();
            for (int times = 0; times < 3; times++) {
                due("right", checked(x, 2, right(4)), 0);
                due("fewer", checked(x, 2, right(2)), 3);
            }
        });
    }

    // ---- 39

    private static void checkRefusals() {
        Edges.sentence("39: BAD: n 1 .. 30", () -> {
            SmokeVotes x = threePairs();
            x.keep();
            due("1", checked(x, 1, right(2)), 0);
            due("30", checked(x, 30, right(60)), 0);
            for (int n : new int[] {0, 31, -1, MIN, MAX, 256, 65537, NONE}) {
                due("n " + n, checked(x, n, right(2)), BAD);
            }
        });
        Edges.sentence("39: BAD lets none wait and changes nothing else", () -> {
            Edges.likeTwin("check 0", Edges::rich, x -> x.check(0), BAD, x -> x.check(1));
            Edges.likeTwin("check 31", Edges::full, x -> x.check(31), BAD, x -> x.check(1));
        });
        Edges.sentence("39: NO: there is no IMAGE; none wait then", () -> {
            SmokeVotes x = threePairs();
            due("1", checked(x, 1, right(2)), NO);
            due("30", checked(x, 30), NO);
        });
        Edges.sentence("39: BAD stands ahead of NO", () -> {
            due("0", checked(threePairs(), 0, 1, 2), BAD);
            due("31", checked(threePairs(), 31, 1, 2), BAD);
        });
        Edges.sentence("39: a check changes nothing but that none wait", () -> {
            Edges.likeTwin("check", Edges::rich, x -> x.check(2), 0, x -> x.check(0));
            Edges.likeTwin("check, one missing", Edges::rich, x -> x.check(3), 5, x -> x.check(0));
        });
    }

    private static void checkRows() {
        Edges.sentence("39: 1 and how many stand right ahead of the first that is not", () -> {
            for (int at = 0; at < 60; at++) {
                SmokeVotes x = threePairs();
                x.keep();
                int[] rows = right(60);
                rows[at]++;
                due("wrong at " + at, checked(x, 30, rows), 1 + at);
            }
        });
        Edges.sentence("39: of several that are not the first", () -> {
            SmokeVotes x = threePairs();
            x.keep();
            due("all wrong", checked(x, 2, 9, 9, 9, 9), 1);
            due("two wrong", checked(x, 2, 2, 9, 9, 4), 2);
        });
        Edges.sentence("39: right numbers in a wrong order", () -> {
            SmokeVotes x = threePairs();
            x.keep();
            due("most ahead of SMOKE", checked(x, 2, 2, 2, 4, 0), 3);
        });
    }

    private static void checkLengths() {
        Edges.sentence("39: or is missing", () -> {
            for (int given = 0; given < 60; given++) {
                SmokeVotes x = threePairs();
                x.keep();
                due(given + " of 60", checked(x, 30, right(given)), 1 + given);
            }
        });
        Edges.sentence("39: or one too many", () -> {
            for (int n = 1; n < 30; n++) {
                SmokeVotes x = threePairs();
                x.keep();
                due("one too many of " + n, checked(x, n, right(2 * n + 1)), 1 + 2 * n);
                due("two too many of " + n, checked(x, n, right(2 * n + 2)), 1 + 2 * n);
                due("just so many of " + n, checked(x, n, right(2 * n)), 0);
            }
        });
        Edges.sentence("39: a wrong one ahead of one too many", () -> {
            SmokeVotes x = threePairs();
            x.keep();
            due("wrong at 1", checked(x, 1, 2, 3, 0), 2);
        });
        Edges.sentence("39: of no VOTERS: black, and nobody HAS anything", () -> {
            SmokeVotes x = new SmokeVotes();
            x.keep();
            due("two", checked(x, 2, 3, 0, 3, 0), 0);
            due("wrong", checked(x, 2, 3, 0, 3, 1), 4);
        });
    }

    private static void checkLastDays() {
        Edges.sentence("39: fewer, if THE DAY would be above 9999", () -> {
            for (int day : new int[] {9968, 9969, 9970, 9990, 9997, 9998, 9999}) {
                int left = Math.min(30, 9999 - day);
                int[] rows = new int[2 * left];
                for (int i = 0; i < rows.length; i += 2) {
                    rows[i] = 3;
                }
                SmokeVotes x = Edges.onDay(day);
                x.keep();
                due("from " + day, checked(x, 30, rows), 0);
                if (left < 30) {
                    due("one too many from " + day, checked(x, 30, java.util.Arrays.copyOf(rows, 2 * left + 1)),
                            1 + 2 * left);
                }
                if (left > 0) {
                    due("one missing from " + day, checked(x, 30, java.util.Arrays.copyOf(rows, 2 * left - 1)),
                            2 * left);
                }
            }
        });
        Edges.sentence("39: THE DAY of THE IMAGE, not that of now", () -> {
            SmokeVotes x = new SmokeVotes();
            x.keep();
            for (int i = 0; i < 100; i++) {
                x.rounds(100);
            }
            due("now", x.count(1), 9999);
            due("by THE IMAGE", checked(x, 2, 3, 0, 3, 0), 0);
        });
    }

    private static void checkByImage() {
        Edges.sentence("39: by THE IMAGE, whatever came behind it", () -> {
            SmokeVotes x = threePairs();
            x.keep();
            x.rule(0, 99);
            x.rule(1, 0);
            x.rule(2, 50);
            x.seed(5);
            x.turns(1, 5);
            x.set(0, 1, 5);
            x.set(3, 4, 9);
            x.voter(5, 5, 0, 0);
            x.rounds(9);
            Edges.tellText(x, "sway 0");
            due("right", checked(x, 3, right(6)), 0);
        });
        Edges.sentence("39: by the latest IMAGE", () -> {
            SmokeVotes x = threePairs();
            x.keep();
            x.rounds(1);
            x.keep();
            due("from the second round on", checked(x, 2, 0, 4, 0, 4), 0);
            x.back();
            due("going back leaves THE IMAGE", checked(x, 2, 0, 4, 0, 4), 0);
        });
        Edges.sentence("39: somebody is CHOSEN: white, and what that one HAS", () -> {
            SmokeVotes x = Edges.liking(0, 0, 2);
            x.rounds(1);
            x.keep();
            due("right", checked(x, 2, 0, 2, 0, 2), 0);
        });
        Edges.sentence("39: nobody voted: 0", () -> {
            SmokeVotes x = Edges.ofKind(4, 0, 1, 2);
            x.keep();
            due("right", checked(x, 2, 1, 1, 1, 0), 0);
        });
    }

    // ---- 40, 41

    private static void keep() {
        Edges.sentence("40: how many VOTERS, 0 to 10", () -> {
            for (int n = 0; n <= 10; n++) {
                SmokeVotes x = Edges.liking(new int[n]);
                due("keep", x.keep(), n);
                x.deal(10);
                due("back", x.back(), n);
                due("count", x.count(0), n);
            }
        });
        Edges.sentence("40: nothing of now changes", () -> {
            SmokeVotes x = Edges.rich();
            SmokeVotes twin = Edges.rich();
            x.keep();
            for (int part = 0; part < 4; part++) {
                int[] is = Edges.all(x, part);
                int[] was = Edges.all(twin, part);
                for (int i = 0; i < is.length; i++) {
                    due("part " + part + " at " + i, is[i], was[i]);
                }
            }
        });
        Edges.sentence("40: the latest one alone is kept", () -> {
            SmokeVotes x = Edges.liking(0);
            x.keep();
            x.voter(0, 0, 0, 0);
            x.keep();
            x.voter(0, 0, 0, 0);
            due("back", x.back(), 2);
            due("back once more", x.back(), 2);
        });
    }

    private static void back() {
        Edges.sentence("41: NO: there is none", () -> {
            Edges.refused("new", SmokeVotes::new, SmokeVotes::back, NO);
            Edges.refused("three pairs", EdgeRowsTest::threePairs, SmokeVotes::back, NO);
        });
        Edges.sentence("41: all is as THE IMAGE, again and again", () -> {
            SmokeVotes x = Edges.rich();
            x.keep();
            int[] was = new int[16];
            for (int what = 0; what < 16; what++) {
                was[what] = what < 10 ? x.count(what) : x.conclave(what - 10);
            }
            for (int times = 0; times < 3; times++) {
                change(x);
                due("back", x.back(), 6);
                for (int what = 0; what < 16; what++) {
                    if (what != 7 && what != 8) {
                        due("at " + what, what < 10 ? x.count(what) : x.conclave(what - 10), was[what]);
                    }
                }
                SmokeVotes twin = Edges.rich();
                for (int v = 0; v < 6; v++) {
                    for (int what = 0; what < 10; what++) {
                        due("told " + v + " " + what, x.told(v, what), twin.told(v, what));
                    }
                }
            }
        });
        Edges.sentence("41: an IMAGE with somebody CHOSEN", () -> {
            SmokeVotes x = Edges.liking(1, 1);
            x.rounds(1);
            x.keep();
            x.again();
            due("nobody", x.conclave(0), -1);
            x.back();
            due("CHOSEN", x.conclave(0), 1);
            due("SMOKE", x.conclave(2), 0);
            due("HAS", x.told(1, 6), 2);
            due("ROUNDS", x.count(2), 1);
        });
        Edges.sentence("41: an IMAGE is as it was when it was kept", () -> {
            SmokeVotes x = Edges.liking(0, 1);
            x.keep();
            x.back();
            x.set(0, 4, 9);
            x.set(0, 1, 7);
            x.turns(1, 5);
            x.back();
            due("WET", x.told(0, 4), 3);
            due("LIKES", x.told(0, 1), 0);
            due("KIND", x.told(1, 0), 0);
        });
        Edges.sentence("41: gone on from: as it went on before", () -> {
            SmokeVotes x = Edges.rich();
            x.keep();
            x.rounds(5);
            int[] first = Edges.all(x, 0);
            x.back();
            x.rounds(5);
            int[] second = Edges.all(x, 0);
            for (int i = 0; i < first.length; i++) {
                due("at " + i, second[i], first[i]);
            }
        });
        Edges.sentence("41: from THE DAY 9999 to an earlier one", () -> {
            SmokeVotes x = Edges.liking(0, 1);
            x.keep();
            for (int i = 0; i < 100; i++) {
                x.rounds(100);
            }
            due("9999", x.count(1), 9999);
            x.back();
            due("0", x.count(1), 0);
            x.rounds(1);
            due("days go on", x.count(1), 1);
        });
    }

    private static void change(SmokeVotes x) {
        x.seed(99);
        x.deal(10);
        x.turns(0, 5);
        x.set(0, 1, 9);
        x.set(1, 2, 3);
        x.set(2, 3, 1);
        x.set(3, 4, 9);
        x.rule(0, 99);
        x.rule(1, 99);
        x.rule(2, 99);
        x.rounds(3);
        x.again();
        x.rounds(2);
        Edges.tellText(x, "sway 0");
    }

    private static void backLeaves() {
        Edges.sentence("41: SHEETS stay", () -> {
            SmokeVotes x = new SmokeVotes();
            x.sheet(0, 0, 2);
            x.sheet(1, 1, 2);
            x.keep();
            x.sheet(0, -1, 0);
            x.mark(1, 0, NONE);
            x.sheet(2, 0, 1);
            x.back();
            due("MISSING", x.reads(0), Edges.NOTHING);
            x.lay(0, 2, 1);
            due("NO NUMBER", x.item(0, 0), Edges.KIND);
            due("there", x.mark(2, 0, 1), 1);
        });
        Edges.sentence("41: SLOTS stay", () -> {
            SmokeVotes x = new SmokeVotes();
            x.lay(0, 3, 5);
            x.keep();
            x.lay(0, 0, 0);
            x.lay(1, 3, 7);
            x.back();
            due("nothing", x.lay(0, 0, 0), 0);
            due("a number", x.rest(1, 10), 7);
        });
        Edges.sentence("41: numbers that wait stay", () -> {
            SmokeVotes x = threePairs();
            x.tell(2);
            x.keep();
            x.tell(2);
            x.back();
            due("two wait", x.count(7), 2);
            due("and are right", x.check(1), 0);
            x.back();
            due("none wait", x.count(7), 0);
        });
        Edges.sentence("41: THE TAPE stays", () -> {
            SmokeVotes x = new SmokeVotes();
            Edges.feedAll(x, "fee 9");
            x.keep();
            Edges.feedAll(x, "fee 77");
            x.back();
            due("bytes", x.count(8), 6);
            due("text", x.text(), 0);
            due("gives", x.fee(), 77);
            x.back();
            due("used up", x.count(8), 0);
        });
    }

    private static void backTexts() {
        Edges.sentence("41: TEXTS are as THE IMAGE", () -> {
            SmokeVotes x = new SmokeVotes();
            Edges.tellText(x, "fee 5");
            x.keep();
            for (int i = 1; i < 14; i++) {
                Edges.tellText(x, "fee 6");
            }
            due("full", Edges.tellText(x, "fee 7"), FULL);
            x.back();
            due("one", x.count(6), 1);
            due("the first counts", x.why(1), 0);
            due("gives", x.fee(), 5);
            due("the second is no more", x.textTold(1, 0), BAD);
            for (int i = 1; i < 14; i++) {
                due("room again", Edges.tellText(x, "fine 6+6"), i);
            }
            due("full again", Edges.tellText(x, "fee 7"), FULL);
            due("the second is another one", x.textTold(1, 0), 2);
            due("fee is of THE IMAGE still", x.fee(), 5);
        });
        Edges.sentence("41: an IMAGE without TEXTS, and one of 14", () -> {
            SmokeVotes x = new SmokeVotes();
            x.keep();
            Edges.tellText(x, "fee 5");
            x.back();
            due("none", x.why(1), NONE);
            due("ROUNDS", x.fee(), 0);
            for (int i = 0; i < 14; i++) {
                Edges.tellText(x, "fee 9");
            }
            x.keep();
            x.back();
            due("14", x.count(6), 14);
            due("full", Edges.tellText(x, "fee 7"), FULL);
            due("the last", x.why(1), 13);
        });
        Edges.sentence("41: TEXTS told anew do not change THE IMAGE", () -> {
            SmokeVotes x = new SmokeVotes();
            Edges.tellText(x, "fee 5");
            x.keep();
            for (int times = 0; times < 3; times++) {
                Edges.tellText(x, "fee 8");
                due("the new one", x.fee(), 8);
                x.back();
                due("the old one", x.fee(), 5);
            }
        });
        Edges.sentence("39: THE ROUNDS TOLD by the TEXTS of THE IMAGE", () -> {
            SmokeVotes x = Edges.liking(0, 0, 2, 3);
            x.turns(3, 2);
            x.set(3, 3, 20);
            x.rule(0, 99);
            Edges.tellText(x, "sway 0");
            x.keep();
            Edges.tellText(x, "sway 99");
            due("by sway 0", checked(x, 2, 3, 2, 0, 3), 0);
            due("now by sway 99", x.behind(2, 1), 2);
        });
    }

    // ---- 42

    private static void count() {
        Edges.sentence("42: what 0 .. 9", () -> Edges.outside("count", 0, 9, SmokeVotes::count, BAD));
        Edges.sentence("42: all at their most", () -> {
            SmokeVotes x = Edges.full();
            int[] most = {10, 9999, 5, 99, 99, 99, 14, 60, 96};
            for (int what = 0; what < most.length; what++) {
                due("count " + what, x.count(what), most[what]);
            }
        });
        Edges.sentence("42: RESIN and DRAFT 0, RUN 1", () -> {
            SmokeVotes x = new SmokeVotes();
            x.rule(0, 0);
            x.rule(1, 0);
            x.rule(2, 1);
            due("RESIN", x.count(3), 0);
            due("DRAFT", x.count(4), 0);
            due("RUN", x.count(5), 1);
        });
        Edges.sentence("42: z is any int", () -> {
            for (int z : new int[] {MIN, -1, 0, MAX}) {
                SmokeVotes x = new SmokeVotes();
                x.seed(z);
                due("z", x.count(9), z);
            }
        });
        Edges.sentence("42: telling changes nothing", () -> {
            for (int what = 0; what < 10; what++) {
                int asked = what;
                int answer = Edges.rich().count(asked);
                Edges.refused("count " + what, Edges::rich, x -> x.count(asked), answer);
            }
        });
    }
}
