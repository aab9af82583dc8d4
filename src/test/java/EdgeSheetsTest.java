/** Promises 29 to 37 at their edges: sheets and slots. */
public final class EdgeSheetsTest {
    private static final int BAD = Edges.BAD, NO = Edges.NO, NONE = Edges.NONE, NOTHING = Edges.NOTHING,
            KIND = Edges.KIND, INDEX = Edges.INDEX, SIZE = Edges.SIZE, MIN = Edges.MIN, MAX = Edges.MAX;

    public static void main(String[] args) {
        sheet();
        sheetAnew();
        markRefusals();
        markShorts();
        markFloats();
        pour();
        reads();
        copyRefusals();
        copyIndex();
        copyPlaces();
        lay();
        layKeeps();
        ask();
        item();
        rest();
        Edges.end();
    }

    private static void due(String what, int got, int want) {
        Edges.due(what, got, want);
    }

    /** A place of a sheet, told by way of the last slot. */
    private static int place(SmokeVotes x, int sheet, int place) {
        x.lay(4, 2, sheet);
        return x.item(4, place);
    }

    /** Sheet 0 with the numbers given. */
    private static SmokeVotes withRow(int sort, int... numbers) {
        SmokeVotes x = new SmokeVotes();
        x.sheet(0, sort, numbers.length);
        for (int i = 0; i < numbers.length; i++) {
            x.mark(0, i, numbers[i]);
        }
        return x;
    }

    // ---- 29

    private static void sheet() {
        Edges.sentence("29: 0 to 24 places, of shorts or floats, SHEETS 0 .. 3", () -> {
            for (int s = 0; s < 4; s++) {
                for (int sort = 0; sort < 2; sort++) {
                    for (int n : new int[] {0, 1, 23, 24}) {
                        SmokeVotes x = new SmokeVotes();
                        due("sheet", x.sheet(s, sort, n), n);
                        due("the first behind its places", x.mark(s, n, 0), INDEX);
                        due("its last place", x.mark(s, n - 1, 5), n == 0 ? INDEX : 1);
                        due("lay", x.lay(0, 2, s), 0);
                        due("sort", x.mark(s, 0, NONE), n == 0 ? INDEX : sort == 0 ? KIND : 1);
                        for (int other = 0; other < 4; other++) {
                            due("others", x.reads(other) == NOTHING ? 1 : 0, other == s ? 0 : 1);
                        }
                    }
                }
            }
        });
        Edges.sentence("29: BAD: sheet", () -> Edges.outside("sheet", 0, 3, (x, v) -> x.sheet(v, 0, 1), BAD));
        Edges.sentence("29: BAD: sort", () -> Edges.outside("sheet sort", -1, 1, (x, v) -> x.sheet(0, v, 1), BAD));
        Edges.sentence("29: BAD: n above 24", () -> {
            for (int n : new int[] {25, 26, 256, 65536, MAX}) {
                Edges.refused("shorts " + n, x -> x.sheet(0, 0, n), BAD);
                Edges.refused("floats " + n, x -> x.sheet(0, 1, n), BAD);
            }
        });
        Edges.sentence("29: SIZE: n below 0", () -> {
            for (int n : new int[] {-1, -2, -25, MIN, MIN + 1, NONE}) {
                Edges.refused("shorts " + n, x -> x.sheet(0, 0, n), SIZE);
                Edges.refused("floats " + n, x -> x.sheet(0, 1, n), SIZE);
            }
        });
        Edges.sentence("29: BAD stands ahead of SIZE", () -> {
            due("sheet 4", new SmokeVotes().sheet(4, 0, -1), BAD);
            due("sheet -1", new SmokeVotes().sheet(-1, 1, -1), BAD);
            due("sort 2", new SmokeVotes().sheet(0, 2, -1), BAD);
            due("sort -2", new SmokeVotes().sheet(0, -2, -1), BAD);
        });
        Edges.sentence("29: sort -1: MISSING, n any: 0", () -> {
            for (int n : new int[] {0, 1, 24, 25, -1, MIN, MAX}) {
                SmokeVotes x = Edges.full();
                due("sheet", x.sheet(1, -1, n), 0);
                due("MISSING", x.reads(1), NOTHING);
                due("others are not", x.reads(0) == NOTHING ? 1 : 0, 0);
            }
            due("sheet 4", new SmokeVotes().sheet(4, -1, 0), BAD);
        });
        Edges.sentence("29: MISSING once more: nothing changes",
                () -> Edges.refused("sheet", Edges::rich, x -> x.sheet(3, -1, 9), 0));
    }

    private static void sheetAnew() {
        Edges.sentence("29: all 0, whatever was there", () -> {
            for (int sort = 0; sort < 2; sort++) {
                SmokeVotes x = new SmokeVotes();
                x.sheet(0, 1, 24);
                for (int p = 0; p < 24; p++) {
                    x.mark(0, p, p % 2 == 0 ? NONE : 77);
                }
                x.sheet(0, sort, 24);
                for (int p = 0; p < 24; p++) {
                    due("place " + p, place(x, 0, p), 0);
                }
            }
        });
        Edges.sentence("29: all 0, longer than before, and behind MISSING", () -> {
            SmokeVotes x = withRow(0, 9, 9, 9);
            x.sheet(0, 0, 1);
            x.sheet(0, 0, 3);
            due("place 2", place(x, 0, 2), 0);
            x.mark(0, 2, 9);
            x.sheet(0, -1, 0);
            x.sheet(0, 0, 3);
            due("place 2 behind MISSING", place(x, 0, 2), 0);
        });
        Edges.sentence("29: shorter: places beyond are no more", () -> {
            SmokeVotes x = withRow(0, 9, 9, 9);
            x.sheet(0, 0, 2);
            due("mark", x.mark(0, 2, 1), INDEX);
            due("item", place(x, 0, 2), INDEX);
            due("copy", x.copy(0, 2, 0, 0, 1), INDEX);
        });
    }

    // ---- 30

    private static void markRefusals() {
        Edges.sentence("30: BAD: sheet", () -> Edges.outside("mark", 0, 3, (x, v) -> x.mark(v, 0, 0), BAD));
        Edges.sentence("30: BAD (sheet) stands ahead of NOTHING, INDEX, KIND",
                () -> due("mark", Edges.rich().mark(4, -1, NONE), BAD));
        Edges.sentence("30: NOTHING", () -> Edges.refused("mark", Edges::rich, x -> x.mark(3, 0, 0), NOTHING));
        Edges.sentence("30: NOTHING stands ahead of INDEX, KIND, BAD (v)", () -> {
            due("no place", Edges.rich().mark(3, -1, 0), NOTHING);
            due("no number", Edges.rich().mark(3, 0, NONE), NOTHING);
            due("too great", Edges.rich().mark(3, 24, 100000), NOTHING);
        });
        Edges.sentence("30: INDEX", () -> {
            for (int place : new int[] {-1, 5, 24, MIN, MAX, 256, 65536}) {
                Edges.refused("shorts " + place, Edges::rich, x -> x.mark(0, place, 1), INDEX);
            }
            for (int place : new int[] {-1, 4, 24, MIN, MAX, 256, 65536}) {
                Edges.refused("floats " + place, Edges::rich, x -> x.mark(1, place, 1), INDEX);
            }
            Edges.refused("of 24", Edges::full, x -> x.mark(0, 24, 1), INDEX);
            Edges.refused("of none", Edges::rich, x -> x.mark(2, 0, 1), INDEX);
        });
        Edges.sentence("30: INDEX stands ahead of KIND and BAD (v)", () -> {
            due("KIND", Edges.rich().mark(0, 5, NONE), INDEX);
            due("BAD", Edges.rich().mark(1, 4, 100000), INDEX);
        });
        Edges.sentence("30: KIND: NONE in a row of shorts", () -> {
            Edges.refused("the first place", Edges::rich, x -> x.mark(0, 0, NONE), KIND);
            Edges.refused("the last place", Edges::rich, x -> x.mark(0, 4, NONE), KIND);
        });
        Edges.sentence("30: BAD: v of floats", () -> {
            for (int v : new int[] {-100000, 100000, MIN, MAX, BAD, NO, NOTHING, NONE - 1, NONE + 1}) {
                Edges.refused("v " + v, Edges::rich, x -> x.mark(1, 0, v), BAD);
            }
        });
    }

    private static void markShorts() {
        Edges.sentence("30: of shorts its lowest 16 bits", () -> {
            int[] marks = {0, 1, -1, 32767, 32768, -32768, -32769, 65535, 65536, 65537, 98304, MIN, MAX, NONE + 1, BAD};
            for (int v : marks) {
                SmokeVotes x = withRow(0, 5);
                due("mark " + v, x.mark(0, 0, v), 1);
                int low = ((v % 65536) + 65536) % 65536;
                due("place", place(x, 0, 0), low > 32767 ? low - 65536 : low);
            }
        });
        Edges.sentence("30: a place alone, the first and the last", () -> {
            for (int at : new int[] {0, 23}) {
                SmokeVotes x = Edges.full();
                x.sheet(0, 0, 24);
                due("mark", x.mark(0, at, 7), 1);
                for (int p = 0; p < 24; p++) {
                    due("place " + p, place(x, 0, p), p == at ? 7 : 0);
                }
            }
        });
    }

    private static void markFloats() {
        Edges.sentence("30: of floats v, -99999 .. 99999", () -> {
            for (int v : new int[] {-99999, -99998, -1, 0, 1, 32768, -32769, 65536, 99998, 99999}) {
                SmokeVotes x = withRow(1, 5);
                due("mark " + v, x.mark(0, 0, v), 1);
                due("place", place(x, 0, 0), v);
            }
        });
        Edges.sentence("30: of floats NONE: NO NUMBER, and a number again", () -> {
            SmokeVotes x = withRow(1, 5, 6);
            due("mark", x.mark(0, 1, NONE), 1);
            due("place", place(x, 0, 1), KIND);
            due("another place", place(x, 0, 0), 5);
            due("mark", x.mark(0, 1, 8), 1);
            due("a number", place(x, 0, 1), 8);
        });
    }

    // ---- 31, 32

    private static void pour() {
        Edges.sentence("31: BAD", () -> Edges.outside("pour", 0, 3, SmokeVotes::pour, BAD));
        Edges.sentence("31: NOTHING", () -> Edges.refused("pour", Edges::rich, x -> x.pour(3), NOTHING));
        Edges.sentence("31: each held within 0 .. 9", () -> {
            int[][] rows = {{-1, 0}, {0, 0}, {1, 1}, {8, 8}, {9, 9}, {10, 9}, {99999, 9}, {-99999, 0}};
            for (int[] row : rows) {
                SmokeVotes x = withRow(1, row[0]);
                x.voter(0, 0, 0, 0);
                due("pour " + row[0], x.pour(0), 1);
                due("WET", x.told(0, 4), row[1]);
            }
            SmokeVotes x = withRow(0, 32767, -32768);
            x.voter(0, 0, 0, 0);
            x.voter(0, 0, 0, 0);
            due("shorts", x.pour(0), 2);
            due("9", x.told(0, 4), 9);
            due("0", x.told(1, 4), 0);
        });
        Edges.sentence("31: NO NUMBER: it stays", () -> {
            SmokeVotes x = withRow(1, NONE, 5, NONE);
            for (int v = 0; v < 3; v++) {
                x.voter(0, 0, 0, 0);
            }
            due("pour", x.pour(0), 1);
            due("WET 0", x.told(0, 4), 3);
            due("WET 1", x.told(1, 4), 5);
            due("WET 2", x.told(2, 4), 3);
        });
        Edges.sentence("31: beyond the SHEET: it stays", () -> {
            for (int places = 0; places <= 12; places++) {
                SmokeVotes x = Edges.liking(0, 0, 0, 0, 0, 0, 0, 0, 0, 0);
                x.sheet(0, 0, places);
                due(places + " places", x.pour(0), Math.min(places, 10));
                for (int v = 0; v < 10; v++) {
                    due("WET " + v, x.told(v, 4), v < places ? 0 : 3);
                }
            }
        });
        Edges.sentence("31: how many are otherwise then", () -> {
            SmokeVotes x = withRow(0, 3, 3, 4);
            for (int v = 0; v < 3; v++) {
                x.voter(0, 0, 0, 0);
            }
            due("one", x.pour(0), 1);
            due("none any more", x.pour(0), 0);
            x.set(0, 4, 9);
            x.mark(0, 0, 99);
            due("99 is held to 9, as it is", x.pour(0), 0);
        });
        Edges.sentence("31: no places: nothing changes",
                () -> Edges.refused("pour", Edges::rich, x -> x.pour(2), 0));
        Edges.sentence("31: nothing but WET changes", () -> Edges.likeTwin("pour", Edges::rich, x -> x.pour(1), 3, x -> {
            x.set(0, 4, 0);
            x.set(2, 4, 0);
            return x.set(3, 4, 9);
        }));
    }

    private static void reads() {
        Edges.sentence("32: BAD", () -> Edges.outside("reads", 0, 3, SmokeVotes::reads, BAD));
        Edges.sentence("32: NOTHING", () -> Edges.refused("reads", Edges::rich, x -> x.reads(3), NOTHING));
        Edges.sentence("32: NONE: there is none", () -> {
            due("no places", Edges.rich().reads(2), NONE);
            SmokeVotes x = withRow(1, 2, 0);
            x.voter(0, 0, 0, 0);
            x.voter(0, 0, 0, 0);
            x.rounds(1);
            due("all are", x.reads(0), NONE);
            SmokeVotes y = withRow(1, NONE, NONE);
            y.voter(0, 0, 0, 0);
            due("no numbers", y.reads(0), NONE);
        });
        Edges.sentence("32: the first place, 0 to 23", () -> {
            for (int sort = 0; sort < 2; sort++) {
                for (int at = 0; at < 10; at++) {
                    SmokeVotes x = Edges.liking(9, 8, 7, 6, 5, 4, 3, 2, 1, 0);
                    x.rounds(1);
                    x.sheet(0, sort, 10);
                    for (int p = 0; p < 10; p++) {
                        x.mark(0, p, p < at ? 1 : 2);
                    }
                    due("place " + at, x.reads(0), at);
                }
            }
            SmokeVotes x = new SmokeVotes();
            x.sheet(0, 1, 24);
            for (int p = 0; p < 23; p++) {
                x.mark(0, p, NONE);
            }
            due("place 23", x.reads(0), 23);
        });
        Edges.sentence("32: of numbers alone", () -> {
            SmokeVotes x = withRow(1, NONE, 7);
            x.voter(0, 0, 0, 0);
            x.voter(0, 0, 0, 0);
            due("place 0 is none", x.reads(0), 1);
        });
        Edges.sentence("32: of places that are no VOTER all numbers are not, 0 neither", () -> {
            SmokeVotes x = withRow(0, 0, 0, 0);
            due("no VOTERS", x.reads(0), 0);
            x.voter(0, 0, 0, 0);
            x.voter(0, 0, 0, 0);
            due("two VOTERS", x.reads(0), 2);
            x.voter(0, 0, 0, 0);
            due("three VOTERS", x.reads(0), NONE);
            SmokeVotes ten = Edges.full();
            ten.again();
            ten.sheet(0, 0, 10);
            due("ten VOTERS, ten places", ten.reads(0), NONE);
            ten.sheet(0, 0, 11);
            due("ten VOTERS, eleven places", ten.reads(0), 10);
        });
        Edges.sentence("32: nothing changes", () -> {
            int answer = Edges.rich().reads(0);
            Edges.refused("reads", Edges::rich, x -> x.reads(0), answer);
        });
    }

    // ---- 33

    private static void copyRefusals() {
        Edges.sentence("33: BAD: from", () -> Edges.outside("copy from", 0, 3, (x, v) -> x.copy(v, 0, 0, 0, 0), BAD));
        Edges.sentence("33: BAD: to", () -> Edges.outside("copy to", 0, 3, (x, v) -> x.copy(0, 0, v, 0, 0), BAD));
        Edges.sentence("33: BAD stands ahead of NOTHING, KIND, INDEX", () -> {
            due("NOTHING, from", Edges.rich().copy(3, 0, 4, 0, 0), BAD);
            due("NOTHING, to", Edges.rich().copy(-1, 0, 3, 0, 0), BAD);
            due("INDEX", Edges.rich().copy(0, -1, 4, 9, -1), BAD);
        });
        Edges.sentence("33: NOTHING, from or to", () -> {
            Edges.refused("from", Edges::rich, x -> x.copy(3, 0, 0, 0, 1), NOTHING);
            Edges.refused("to", Edges::rich, x -> x.copy(0, 0, 3, 0, 1), NOTHING);
            Edges.refused("both", Edges::rich, x -> x.copy(3, 0, 3, 0, 0), NOTHING);
        });
        Edges.sentence("33: NOTHING stands ahead of KIND and INDEX", () -> {
            due("from", Edges.rich().copy(3, -1, 1, 9, 9), NOTHING);
            due("to", Edges.rich().copy(1, 9, 3, -1, -1), NOTHING);
        });
        Edges.sentence("33: KIND: they are not of one sort", () -> {
            Edges.refused("shorts to floats", Edges::rich, x -> x.copy(0, 0, 1, 0, 1), KIND);
            Edges.refused("floats to shorts", Edges::rich, x -> x.copy(1, 0, 0, 0, 1), KIND);
            Edges.refused("no places", Edges::rich, x -> x.copy(1, 0, 0, 0, 0), KIND);
        });
        Edges.sentence("33: KIND stands ahead of INDEX", () -> {
            due("place", Edges.rich().copy(0, 9, 1, 0, 1), KIND);
            due("many", Edges.rich().copy(1, 0, 0, 0, -1), KIND);
        });
    }

    private static void copyIndex() {
        Edges.sentence("33: INDEX: there is no such place", () -> {
            int[][] rows = {{-1, 0, 1}, {0, -1, 1}, {0, 0, 6}, {0, 0, -1}, {5, 0, 1}, {0, 5, 1}, {4, 0, 2}, {0, 4, 2},
                {6, 0, 0}, {0, 6, 0}, {-1, 0, 0}, {0, -1, 0}, {1, 0, 5}, {0, 1, 5}, {MAX, 0, 1}, {0, MAX, 1}, {0, 0, MAX},
                {MAX, 0, MAX}, {0, MAX, MAX}, {1, 1, MAX}, {5, 5, MAX}, {MIN, 0, MIN}, {0, MIN, MIN}, {0, 0, MIN},
                {2, 0, MAX - 1}, {-1, -1, 2}, {MAX, MAX, 2}, {MIN, MIN, 0}};
            for (int[] row : rows) {
                Edges.refused(java.util.Arrays.toString(row), Edges::rich, x -> x.copy(0, row[0], 0, row[1], row[2]),
                        INDEX);
            }
        });
        Edges.sentence("33: INDEX of a SHEET of no places and of one of 24", () -> {
            Edges.refused("of none", Edges::rich, x -> x.copy(2, 0, 2, 0, 1), INDEX);
            Edges.refused("to none", Edges::rich, x -> x.copy(0, 0, 2, 0, 1), INDEX);
            Edges.refused("25 of 24", Edges::full, x -> x.copy(0, 0, 2, 0, 25), INDEX);
            Edges.refused("24 from 1", Edges::full, x -> x.copy(0, 1, 2, 0, 24), INDEX);
            Edges.refused("24 to 1", Edges::full, x -> x.copy(0, 0, 2, 1, 24), INDEX);
            Edges.refused("25 to none", Edges::full, x -> x.copy(0, 25, 2, 0, 0), INDEX);
        });
        Edges.sentence("33: no places: 0, and nothing changes", () -> {
            Edges.refused("at the first", Edges::rich, x -> x.copy(0, 0, 0, 0, 0), 0);
            Edges.refused("behind the last", Edges::rich, x -> x.copy(0, 5, 0, 5, 0), 0);
            Edges.refused("of a SHEET of no places", Edges::rich, x -> x.copy(2, 0, 0, 0, 0), 0);
            Edges.refused("to a SHEET of no places", Edges::rich, x -> x.copy(0, 5, 2, 0, 0), 0);
        });
    }

    private static void copyPlaces() {
        Edges.sentence("33: within one SHEET, as they were", () -> {
            for (int from = 0; from <= 6; from++) {
                for (int to = 0; to <= 6; to++) {
                    for (int many = 0; many <= 6 - Math.max(from, to); many++) {
                        SmokeVotes x = withRow(0, 10, 11, 12, 13, 14, 15);
                        due("copy", x.copy(0, from, 0, to, many), many);
                        for (int p = 0; p < 6; p++) {
                            boolean came = p >= to && p < to + many;
                            due(from + " to " + to + ", " + many + ", at " + p, place(x, 0, p),
                                    10 + (came ? p - to + from : p));
                        }
                    }
                }
            }
        });
        Edges.sentence("33: all 24 places to another SHEET", () -> {
            for (int sort = 0; sort < 2; sort++) {
                SmokeVotes x = new SmokeVotes();
                x.sheet(0, sort, 24);
                x.sheet(3, sort, 24);
                for (int p = 0; p < 24; p++) {
                    x.mark(0, p, p * 3 - 30);
                }
                due("copy", x.copy(0, 0, 3, 0, 24), 24);
                for (int p = 0; p < 24; p++) {
                    due("came " + p, place(x, 3, p), p * 3 - 30);
                    due("stayed " + p, place(x, 0, p), p * 3 - 30);
                }
                x.mark(0, 5, 1);
                due("they are rows of their own", place(x, 3, 5), -15);
            }
        });
        Edges.sentence("33: the last place alone, to SHEETS of other lengths", () -> {
            SmokeVotes x = withRow(0, 1, 2, 3);
            x.sheet(1, 0, 1);
            due("copy", x.copy(0, 2, 1, 0, 1), 1);
            due("came", place(x, 1, 0), 3);
            due("back", x.copy(1, 0, 0, 0, 1), 1);
            due("came back", place(x, 0, 0), 3);
        });
        Edges.sentence("33: NO NUMBER comes too", () -> {
            SmokeVotes x = withRow(1, 4, NONE, 6);
            due("copy", x.copy(0, 1, 0, 0, 2), 2);
            due("NO NUMBER", place(x, 0, 0), KIND);
            due("a number", place(x, 0, 1), 6);
        });
    }

    // ---- 34

    private static void lay() {
        Edges.sentence("34: what it held (0 .. 3), SLOTS 0 .. 4", () -> {
            for (int slot = 0; slot < 5; slot++) {
                SmokeVotes x = Edges.liking(0);
                x.sheet(0, 0, 1);
                int held = 0;
                for (int thing : new int[] {1, 2, 3, 0, 3, 2, 1, 0, 2, 0, 1, 3, 1, 1, 2, 2, 3, 3, 0, 0}) {
                    due("slot " + slot + ", thing " + thing, x.lay(slot, thing, 0), held);
                    held = thing;
                }
                for (int other = 0; other < 5; other++) {
                    due("slot " + other, x.lay(other, 0, 0), 0);
                }
            }
        });
        Edges.sentence("34: BAD: slot", () -> Edges.outside("lay", 0, 4, (x, v) -> x.lay(v, 3, 0), BAD));
        Edges.sentence("34: BAD: thing", () -> Edges.outside("lay thing", 0, 3, (x, v) -> x.lay(0, v, 0), BAD));
        Edges.sentence("34: BAD: k, a VOTER", () -> {
            due("the last of six", Edges.rich().lay(4, 1, 5), 0);
            Edges.refused("the first that is not there", Edges::rich, x -> x.lay(0, 1, 6), BAD);
            Edges.outside("lay voter", 0, 9, (x, v) -> x.lay(0, 1, v), BAD);
        });
        Edges.sentence("34: BAD: k, a SHEET", () -> Edges.outside("lay sheet", 0, 3, (x, v) -> x.lay(0, 2, v), BAD));
        Edges.sentence("34: k of nothing and of a number is any", () -> {
            for (int k : new int[] {MIN, -1, 4, 10, MAX, NONE}) {
                SmokeVotes x = new SmokeVotes();
                due("a number", x.lay(0, 3, k), 0);
                due("nothing", x.lay(0, 0, k), 3);
            }
        });
        Edges.sentence("34: NOTHING: that SHEET is MISSING", () -> {
            for (int slot = 0; slot < 5; slot++) {
                int laid = slot;
                Edges.refused("slot " + slot, Edges::rich, x -> x.lay(laid, 2, 3), NOTHING);
            }
        });
        Edges.sentence("34: BAD stands ahead of NOTHING", () -> {
            due("slot 5", Edges.rich().lay(5, 2, 3), BAD);
            due("slot -1", Edges.rich().lay(-1, 2, 3), BAD);
        });
    }

    private static void layKeeps() {
        Edges.sentence("34: a VOTER as it is then, for good", () -> {
            SmokeVotes x = Edges.ofKind(3, 0);
            x.lay(0, 1, 0);
            x.set(0, 3, 1);
            x.turns(0, 4);
            due("WORTH", x.ask(0, 3), 210);
            x.keep();
            x.lay(1, 1, 0);
            x.back();
            due("SLOTS are not of THE IMAGE", x.ask(1, 4), 90);
            due("nor the first", x.ask(0, 3), 210);
        });
        Edges.sentence("34: a VOTER that is there no more", () -> {
            SmokeVotes x = new SmokeVotes();
            x.keep();
            x.voter(5, 0, 0, 0);
            x.lay(0, 1, 0);
            x.back();
            due("no VOTERS", x.count(0), 0);
            due("WORTH", x.ask(0, 5), 2);
        });
        Edges.sentence("34: a SHEET, a row of its own, as it was then", () -> {
            SmokeVotes x = withRow(1, 1, 2);
            x.lay(0, 2, 0);
            x.mark(0, 0, 9);
            due("a place", x.item(0, 0), 1);
            x.sheet(0, 0, 24);
            due("another row", x.item(0, 1), 2);
            due("its own length", x.item(0, 2), INDEX);
            x.sheet(0, -1, 0);
            due("MISSING", x.item(0, 1), 2);
        });
        Edges.sentence("34: a SHEET of no places and one of 24", () -> {
            SmokeVotes x = withRow(0);
            x.lay(0, 2, 0);
            due("no place", x.item(0, 0), INDEX);
            x.sheet(0, 0, 24);
            x.mark(0, 23, -7);
            x.lay(0, 2, 0);
            due("the last place", x.item(0, 23), -7);
        });
        Edges.sentence("34: one thing in several SLOTS", () -> {
            SmokeVotes x = withRow(0, 5);
            for (int slot = 0; slot < 5; slot++) {
                x.mark(0, 0, slot);
                x.lay(slot, 2, 0);
            }
            for (int slot = 0; slot < 5; slot++) {
                due("slot " + slot, x.item(slot, 0), slot);
            }
        });
    }

    // ---- 35 to 37

    private static void ask() {
        Edges.sentence("35: BAD: slot", () -> Edges.outside("ask", 0, 4, (x, v) -> x.ask(v, 0), BAD));
        Edges.sentence("35: BAD: kind", () -> Edges.outside("ask kind", 0, 5, (x, v) -> x.ask(0, v), BAD));
        Edges.sentence("35: BAD stands ahead of NOTHING and KIND", () -> {
            due("NOTHING", Edges.rich().ask(4, 6), BAD);
            due("KIND", Edges.rich().ask(1, -1), BAD);
        });
        Edges.sentence("35: NOTHING", () -> Edges.refused("ask", Edges::rich, x -> x.ask(4, 0), NOTHING));
        Edges.sentence("35: KIND: it is no VOTER", () -> {
            Edges.refused("a SHEET", Edges::rich, x -> x.ask(1, 0), KIND);
            Edges.refused("a number", Edges::rich, x -> x.ask(2, 0), KIND);
        });
        Edges.sentence("35: KIND: not of that KIND, nor of one under it", () -> {
            boolean[][] under = {{true, false, false, false, false, false}, {true, true, false, false, false, false},
                {true, false, true, false, false, false}, {true, true, false, true, false, false},
                {true, false, true, false, true, false}, {true, false, false, false, false, true}};
            int[] worth = {99, 105, 0, 210, -8, 2};
            for (int kind = 0; kind < 6; kind++) {
                for (int asked = 0; asked < 6; asked++) {
                    SmokeVotes x = Edges.ofKind(kind, 0);
                    x.lay(4, 1, 0);
                    due(kind + " for " + asked, x.ask(4, asked), under[kind][asked] ? worth[kind] : KIND);
                }
            }
        });
        Edges.sentence("35: a SLOT that held a VOTER", () -> {
            SmokeVotes x = Edges.rich();
            x.lay(0, 3, 0);
            due("a number now", x.ask(0, 0), KIND);
            x.lay(0, 0, 0);
            due("nothing now", x.ask(0, 0), NOTHING);
        });
    }

    private static void item() {
        Edges.sentence("36: BAD: slot", () -> Edges.outside("item", 0, 4, (x, v) -> x.item(v, 0), BAD));
        Edges.sentence("36: BAD stands ahead of all", () -> due("item", Edges.rich().item(5, -1), BAD));
        Edges.sentence("36: NOTHING, ahead of INDEX",
                () -> Edges.refused("item", Edges::rich, x -> x.item(4, -1), NOTHING));
        Edges.sentence("36: KIND: it is no SHEET, ahead of INDEX", () -> {
            Edges.refused("a VOTER", Edges::rich, x -> x.item(0, -1), KIND);
            Edges.refused("a number", Edges::rich, x -> x.item(2, 24), KIND);
            due("a VOTER, a place", Edges.rich().item(0, 0), KIND);
            due("a number, a place", Edges.rich().item(2, 0), KIND);
        });
        Edges.sentence("36: INDEX", () -> {
            for (int place : new int[] {-1, 4, 24, 256, 65536, MIN, MAX}) {
                Edges.refused("place " + place, Edges::rich, x -> x.item(1, place), INDEX);
            }
            due("the first", Edges.rich().item(1, 0), -99999);
            due("the last", Edges.rich().item(1, 3), 99999);
            due("of 24: the last", Edges.full().item(1, 23), -1);
            due("of 24: the first behind", Edges.full().item(1, 24), INDEX);
        });
        Edges.sentence("36: KIND: NO NUMBER", () -> Edges.refused("item", Edges::rich, x -> x.item(1, 1), KIND));
        Edges.sentence("36: shorts at their most", () -> {
            due("the least", Edges.rich().item(3, 0), -32768);
            due("the greatest", Edges.rich().item(3, 4), 32767);
        });
    }

    private static void rest() {
        Edges.sentence("37: BAD: slot", () -> Edges.outside("rest", 0, 4, (x, v) -> x.rest(v, 1), BAD));
        Edges.sentence("37: BAD stands ahead of all", () -> due("rest", Edges.rich().rest(5, 0), BAD));
        Edges.sentence("37: NOTHING, ahead of NO",
                () -> Edges.refused("rest", Edges::rich, x -> x.rest(4, 0), NOTHING));
        Edges.sentence("37: KIND: it is no number, ahead of NO", () -> {
            Edges.refused("a VOTER", Edges::rich, x -> x.rest(0, 0), KIND);
            Edges.refused("a SHEET", Edges::rich, x -> x.rest(1, 0), KIND);
            due("a VOTER by 1", Edges.rich().rest(0, 1), KIND);
            due("a SHEET by 1", Edges.rich().rest(1, 1), KIND);
        });
        Edges.sentence("37: NO: n is 0", () -> Edges.refused("rest", Edges::rich, x -> x.rest(2, 0), NO));
        Edges.sentence("37: the rest, with the sign of the number", () -> {
            int[][] rows = {{17, 5, 2}, {17, -5, 2}, {-17, 5, -2}, {-17, -5, -2}, {0, 7, 0}, {5, 7, 5}, {-5, 7, -5},
                {7, 7, 0}, {MAX, MAX, 0}, {MAX, 2, 1}, {MIN, 2, 0}, {MIN, 10, -8}, {MIN, MAX, -1}, {MAX, MIN, MAX},
                {MIN, MIN, 0}, {9, 1, 0}, {9, -1, 0}};
            for (int[] row : rows) {
                SmokeVotes x = new SmokeVotes();
                x.lay(0, 3, row[0]);
                due(row[0] + " by " + row[1], x.rest(0, row[1]), row[2]);
            }
        });
        Edges.sentence("37: the least int by -1", () -> {
            SmokeVotes x = new SmokeVotes();
            x.lay(0, 3, MIN);
            due("rest", x.rest(0, -1), 0);
        });
    }
}
