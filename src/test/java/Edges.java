/**
 * What the edge tests share: sentences of the document as tests by themselves, objects in states that
 * leave nothing at its first value, and refused calls looked at beside a twin that never had them.
 */
final class Edges {
    static final int BAD = -1000000001, NO = -1000000002, FULL = -1000000003, NONE = -1000000005,
            NOTHING = -1000000011, KIND = -1000000012, INDEX = -1000000013, SIZE = -1000000014;
    static final int MIN = Integer.MIN_VALUE, MAX = Integer.MAX_VALUE;
    static final int NOBODY = -1;

    private static final int PARTS = 6;
    /** Values that lie outside most bounds, some of which a cast or a wrap would bring back in. */
    private static final int[] FAR = {MIN, MIN + 1, MIN + 2, -65536, -256, -10, 256, 257, 65536, 65537, 1 << 24,
        MAX - 2, MAX - 1, MAX, BAD, NO, FULL, NONE, NOTHING, KIND, INDEX, SIZE};

    private static String words = "";
    private static int sentences = 0;
    private static int looked = 0;
    private static int wrong = 0;

    private Edges() {
    }

    interface Call {
        int on(SmokeVotes x);
    }

    interface CallWith {
        int on(SmokeVotes x, int v);
    }

    interface State {
        SmokeVotes made();
    }

    /** One sentence of the document (or one edge of it), as a test by itself. */
    static void sentence(String named, Runnable test) {
        words = named;
        sentences++;
        test.run();
    }

    static void due(String what, int got, int want) {
        looked++;
        if (got != want) {
            wrong++;
            System.out.println("[" + words + "] " + what + " answered " + got + ", due is " + want);
        }
    }

    static void end() {
        System.out.println(sentences + " sentences, " + looked + " answers looked at, " + wrong + " wrong");
        System.exit(wrong == 0 ? 0 : 1);
    }

    // ---- refused calls

    /** The answer is due, and all that can be told of the object is as it is of its twin. */
    static void refused(String what, State state, Call call, int answer) {
        likeTwin(what, state, call, answer, x -> 0);
    }

    /** A call that answers so and leaves the object as another call leaves its twin. */
    static void likeTwin(String what, State state, Call call, int answer, Call ofTwin) {
        for (int part = 0; part < PARTS; part++) {
            SmokeVotes x = state.made();
            SmokeVotes twin = state.made();
            due(what, call.on(x), answer);
            ofTwin.on(twin);
            int[] is = all(x, part);
            int[] was = all(twin, part);
            for (int i = 0; i < is.length; i++) {
                due(what + ", then part " + part + " at " + i, is[i], was[i]);
            }
        }
    }

    /** Refused in a state that holds much and in one that is full. */
    static void refused(String what, Call call, int answer) {
        refused(what + " (rich)", Edges::rich, call, answer);
        refused(what + " (full)", Edges::full, call, answer);
    }

    /** Each value outside of least .. most is refused, those right beside the bounds among them. */
    static void outside(String what, int least, int most, CallWith call, int answer) {
        refused(what + " " + (least - 1), x -> call.on(x, least - 1), answer);
        refused(what + " " + (most + 1), x -> call.on(x, most + 1), answer);
        for (int v : FAR) {
            if (v < least - 1 || v > most + 1) {
                due(what + " " + v, call.on(rich(), v), answer);
                due(what + " " + v + " (new)", call.on(new SmokeVotes(), v), answer);
            }
        }
    }

    // ---- all that can be told of an object, in parts, since telling a sheet takes up a slot

    static int[] all(SmokeVotes x, int part) {
        Row row = new Row();
        switch (part) {
            case 0:
                tellConclave(x, row);
                break;
            case 1:
                tellSheets(x, row);
                break;
            case 2:
                tellSlots(x, row);
                break;
            case 3:
                tellTexts(x, row);
                break;
            case 4:
                row.add(x.count(7));
                row.add(x.check(2));
                row.add(x.count(7));
                break;
            default:
                row.add(x.back());
                tellConclave(x, row);
                tellTexts(x, row);
        }
        return row.all();
    }

    private static void tellConclave(SmokeVotes x, Row row) {
        for (int what = 0; what < 10; what++) {
            row.add(x.count(what));
        }
        for (int what = 0; what < 6; what++) {
            row.add(x.conclave(what));
        }
        for (int v = 0; v < 10; v++) {
            for (int what = 0; what < 10; what++) {
                row.add(x.told(v, what));
            }
            row.add(x.fine(v));
        }
        row.add(x.butOne());
        row.add(x.decides());
        row.add(x.ends());
        row.add(x.smokes(12));
        row.add(x.fee());
    }

    private static void tellSheets(SmokeVotes x, Row row) {
        for (int s = 0; s < 4; s++) {
            // A sheet that is missing leaves the slot as it was: it must not tell of the one before.
            x.lay(4, 0, 0);
            row.add(x.lay(4, 2, s));
            for (int place = 0; place <= 24; place++) {
                row.add(x.item(4, place));
            }
            for (int other = 0; other < 4; other++) {
                row.add(x.copy(s, 0, other, 0, 0));
            }
        }
    }

    private static void tellSlots(SmokeVotes x, Row row) {
        for (int s = 0; s < 5; s++) {
            for (int kind = 0; kind < 6; kind++) {
                row.add(x.ask(s, kind));
            }
            for (int place = 0; place <= 24; place++) {
                row.add(x.item(s, place));
            }
            row.add(x.rest(s, MAX));
            row.add(x.lay(s, 0, 0));
        }
    }

    private static void tellTexts(SmokeVotes x, Row row) {
        for (int t = 0; t < 14; t++) {
            row.add(x.textTold(t, 0));
            row.add(x.textTold(t, 1));
        }
        for (int key = 0; key < 3; key++) {
            row.add(x.why(key));
        }
        row.add(x.count(8));
        row.add(x.text());
        row.add(x.count(6));
        row.add(x.fee());
    }

    /** Answers, one behind the other. */
    private static final class Row {
        private final int[] kept = new int[512];
        private int many = 0;

        void add(int v) {
            kept[many] = v;
            many++;
        }

        int[] all() {
            return java.util.Arrays.copyOf(kept, many);
        }
    }

    // ---- states

    /** Six voters of all kinds between two rounds, an image behind, and something everywhere. */
    static SmokeVotes rich() {
        SmokeVotes x = new SmokeVotes();
        x.voter(0, 1, 0, 20);
        x.voter(1, 0, 1, 30);
        x.voter(2, 3, 0, 60);
        x.voter(3, 2, 2, 70);
        x.voter(4, 5, 1, 45);
        x.voter(5, 3, 3, 9);
        x.rule(0, 7);
        x.rule(1, 33);
        x.rule(2, 6);
        tellText(x, "sway f / 20 + r");
        tellText(x, "fine f - w");
        x.rounds(2);
        x.keep();
        tellRounds(x, 2);
        x.rounds(1);
        x.set(0, 4, 8);
        x.seed(-77);
        fillSheets(x);
        x.lay(0, 1, 3);
        x.lay(1, 2, 1);
        x.lay(2, 3, -1234567);
        x.lay(3, 2, 0);
        feedAll(x, "fee r + w * 7");
        return x;
    }

    private static void fillSheets(SmokeVotes x) {
        x.sheet(0, 0, 5);
        x.mark(0, 0, -32768);
        x.mark(0, 4, 32767);
        x.sheet(1, 1, 4);
        x.mark(1, 0, -99999);
        x.mark(1, 1, NONE);
        x.mark(1, 3, 99999);
        x.sheet(2, 0, 0);
    }

    /** Ten voters, 14 texts, 96 bytes, 60 numbers that wait, sheets of 24 places, THE DAY 9999. */
    static SmokeVotes full() {
        SmokeVotes x = new SmokeVotes();
        for (int i = 0; i < 99; i++) {
            x.rounds(100);
        }
        x.rounds(94);
        for (int v = 0; v < 10; v++) {
            x.voter(v % 6, (v * 7 + 3) % 10, v % 4, v * 11);
        }
        x.rule(0, 99);
        x.rule(1, 99);
        x.rule(2, 99);
        x.keep();
        tellRounds(x, 2);
        x.rounds(5);
        for (int i = 0; i < 14; i++) {
            tellText(x, i % 3 == 0 ? "sway 3" : i % 3 == 1 ? "fee r*9-w" : "fine f+9");
        }
        for (int s = 0; s < 4; s++) {
            x.sheet(s, s % 2, 24);
            x.mark(s, 0, s + 1);
            x.mark(s, 23, -s - 1);
        }
        x.lay(0, 1, 9);
        x.lay(1, 2, 0);
        x.lay(2, 3, MAX - 1);
        x.lay(3, 2, 3);
        x.lay(4, 1, 0);
        while (x.count(7) < 60) {
            x.tell(x.count(7));
        }
        feedAll(x, "fee " + "1+".repeat(45) + "11");
        return x;
    }

    /** The rows of the image as it is now wait then, right from the first to the last. */
    static void tellRounds(SmokeVotes x, int n) {
        for (int i = 1; i <= n; i++) {
            x.tell(x.behind(i, 2));
            x.tell(x.behind(i, 1));
        }
    }

    /** Plain voters of party 0 and FAITH 0, each of which likes the one given. */
    static SmokeVotes liking(int... likes) {
        SmokeVotes x = new SmokeVotes();
        for (int like : likes) {
            x.voter(0, like, 0, 0);
        }
        return x;
    }

    /** Voters of one kind, each of which likes the one given, of FAITH 99 all. */
    static SmokeVotes ofKind(int kind, int... likes) {
        SmokeVotes x = new SmokeVotes();
        for (int like : likes) {
            x.voter(kind, like, 0, 99);
        }
        return x;
    }

    /** An object with so many days behind it and nothing else. */
    static SmokeVotes onDay(int day) {
        SmokeVotes x = new SmokeVotes();
        for (int left = day; left > 0; left -= 100) {
            x.rounds(Math.min(100, left));
        }
        return x;
    }

    /** The z behind so many draws. */
    static int drawn(int z, int times) {
        int after = z;
        for (int i = 0; i < times; i++) {
            after = after * 1103515245 + 12345;
        }
        return after;
    }

    /** What the last of so many draws gives, by a divisor. */
    static int gives(int z, int times, int by) {
        return (int) ((drawn(z, times) & 0xFFFFFFFFL) / 256 % by);
    }

    // ---- texts

    static void feedAll(SmokeVotes x, String text) {
        x.trim(0);
        for (int i = 0; i < text.length(); i += 12) {
            int[] three = new int[3];
            for (int k = 0; k < 12; k++) {
                int b = i + k < text.length() ? text.charAt(i + k) : 32;
                three[k / 4] = three[k / 4] << 8 | b;
            }
            x.feed(three[0], three[1], three[2]);
        }
        x.trim(text.length());
    }

    static int tellText(SmokeVotes x, String text) {
        feedAll(x, text);
        return x.text();
    }
}
