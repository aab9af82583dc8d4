import java.util.Arrays;

/**
 * A conclave: voters of kinds that vote in rounds, the smoke that tells the town how near they are,
 * and what can be asked, thought ahead, written down and checked about them. The numbered promises
 * of the document say what each call answers.
 */
public final class SmokeVotes {
    public static final int BAD = -1000000001;
    public static final int NO = -1000000002;
    public static final int FULL = -1000000003;
    public static final int NONE = -1000000005;
    public static final int NOTHING = -1000000011;
    public static final int KIND = -1000000012;
    public static final int INDEX = -1000000013;
    public static final int SIZE = -1000000014;

    private static final int MOST_VOTERS = 10;
    private static final int PARTIES = 4;
    private static final int MOST_FAITH = 99;
    private static final int MOST_WET = 9;
    private static final int MOST_RULE = 99;
    private static final int LAST_DAY = 9999;
    private static final int NOBODY = -1;

    private static final int PLAIN = 0;
    private static final int LOYAL = 1;
    private static final int SWAYED = 2;
    private static final int WHIP = 3;
    private static final int SICK = 4;
    private static final int STRAW = 5;
    private static final int KINDS = 6;
    /** The kind right above each kind; -1 above the plain voter. */
    private static final int[] ABOVE = {-1, PLAIN, PLAIN, LOYAL, SWAYED, PLAIN};

    private static final int WHITE = 0;
    private static final int GREY = 1;
    private static final int DARK = 2;
    private static final int BLACK = 3;

    private static final int SWAY = 0;
    private static final int FEE = 1;
    private static final int FINE = 2;
    private static final int KEYS = 3;
    private static final int MOST_TEXTS = 14;
    private static final int MOST_BYTES = 96;

    /** In a law's code numbers stand for themselves, names from here on, signs from the next on. */
    private static final int NAMES_FROM = 10000;
    private static final int SIGNS_FROM = 20000;

    private static final int SHEETS = 4;
    private static final int MOST_PLACES = 24;
    private static final int MISSING = -1;
    private static final int SHORTS = 0;
    private static final int FLOATS = 1;
    private static final int MOST_FLOAT = 99999;

    private static final int SLOTS = 5;
    private static final int HOLDS_NOTHING = 0;
    private static final int HOLDS_VOTER = 1;
    private static final int HOLDS_SHEET = 2;
    private static final int HOLDS_NUMBER = 3;

    private static final int MOST_WAITING = 60;
    private static final int MOST_ROUNDS = 100;
    private static final int MOST_THOUGHT = 40;
    private static final int MOST_SMOKES = 12;
    private static final int MOST_CHECKED = 30;
    private static final int MOST_FITTED_RUN = 20;
    private static final int MOST_SPLIT_VOTES = 12;
    private static final int MOST_SPLIT_AMONG = 6;

    private final LawBook book;
    private final Reader tape;
    private final Conclave now;
    private final Conclave image;
    /** One conclave that all thoughts use in turn, so that no call makes one. */
    private final Conclave thought;
    private final Sheet[] sheets;
    private final Slot[] slots;
    private final int[] waiting;
    private final int[] ways;
    private int waits;
    private boolean kept;

    public SmokeVotes() {
        book = new LawBook();
        tape = new Reader();
        now = new Conclave(book);
        image = new Conclave(book);
        thought = new Conclave(book);
        sheets = new Sheet[SHEETS];
        for (int i = 0; i < SHEETS; i++) {
            sheets[i] = new Sheet();
        }
        slots = new Slot[SLOTS];
        for (int i = 0; i < SLOTS; i++) {
            slots[i] = new Slot();
        }
        waiting = new int[MOST_WAITING];
        ways = new int[MOST_SPLIT_VOTES + 1];
        waits = 0;
        kept = false;
    }

    // ---- voters

    public int voter(int kind, int likes, int party, int faith) {
        boolean right = isWithin(kind, 0, KINDS - 1) && isWithin(likes, 0, MOST_VOTERS - 1)
                && isWithin(party, 0, PARTIES - 1) && isWithin(faith, 0, MOST_FAITH);
        if (!right) {
            return BAD;
        }
        if (now.voters >= MOST_VOTERS) {
            return FULL;
        }
        now.enter(kind, likes, party, faith);
        return now.voters - 1;
    }

    public int told(int voter, int what) {
        if (!now.isVoter(voter)) {
            return BAD;
        }
        switch (what) {
            case 0:
                return now.kinds[voter];
            case 1:
                return now.likes[voter];
            case 2:
                return now.parties[voter];
            case 3:
                return now.faiths[voter];
            case 4:
                return now.wets[voter];
            case 5:
                return now.voted[voter];
            case 6:
                return now.has[voter];
            case 7:
                return now.choice(voter, now.runners(), now.leader());
            case 8:
                return weight(now.kinds[voter]);
            case 9:
                return worth(now.kinds[voter], now.faiths[voter]);
            default:
                return BAD;
        }
    }

    public int as(int voter, int kind) {
        if (!now.isVoter(voter) || !isWithin(kind, 0, KINDS - 1)) {
            return BAD;
        }
        return isOfKind(now.kinds[voter], kind) ? now.faiths[voter] : KIND;
    }

    public int turns(int voter, int kind) {
        if (!now.isVoter(voter) || !isWithin(kind, 0, KINDS - 1)) {
            return BAD;
        }
        int before = now.kinds[voter];
        now.kinds[voter] = kind;
        now.tally();
        return before;
    }

    public int set(int voter, int what, int v) {
        if (!now.isVoter(voter)) {
            return BAD;
        }
        switch (what) {
            case 1:
                return put(now.likes, voter, v, MOST_VOTERS - 1);
            case 2:
                return put(now.parties, voter, v, PARTIES - 1);
            case 3:
                return put(now.faiths, voter, v, MOST_FAITH);
            case 4:
                return put(now.wets, voter, v, MOST_WET);
            default:
                return BAD;
        }
    }

    public int rule(int what, int v) {
        int least = what == 2 ? 1 : 0;
        if (!isWithin(what, 0, 2) || !isWithin(v, least, MOST_RULE)) {
            return BAD;
        }
        int before;
        if (what == 0) {
            before = now.resin;
            now.resin = v;
        } else if (what == 1) {
            before = now.draft;
            now.draft = v;
        } else {
            before = now.run;
            now.run = v;
        }
        return before;
    }

    public int again() {
        int before = now.rounds;
        now.startOver();
        return before;
    }

    public int deal(int n) {
        if (!isWithin(n, 1, MOST_VOTERS)) {
            return BAD;
        }
        int come = Math.min(n, MOST_VOTERS - now.voters);
        for (int i = 0; i < come; i++) {
            now.enterDrawn();
        }
        return come;
    }

    public int seed(int v) {
        int before = now.z;
        now.z = v;
        return before;
    }

    // ---- rounds

    public int rounds(int n) {
        if (!isWithin(n, 1, MOST_ROUNDS)) {
            return BAD;
        }
        now.go(Math.min(n, LAST_DAY - now.day));
        return now.chosen;
    }

    public int conclave(int what) {
        switch (what) {
            case 0:
                return now.chosen;
            case 1:
                return now.wanted();
            case 2:
                return now.smoke;
            case 3:
                return now.wind;
            case 4:
                return now.runners();
            case 5:
                return now.mostVotes() > 0 ? now.leader() : NONE;
            default:
                return BAD;
        }
    }

    public int butOne() {
        int oneLess = now.wanted() - 1;
        int set = 0;
        for (int v = 0; v < now.voters; v++) {
            if (now.has[v] == oneLess) {
                set |= 1 << v;
            }
        }
        return set;
    }

    public int decides() {
        int wanted = now.wanted();
        int set = 0;
        for (int v = 0; v < now.voters; v++) {
            int whom = now.voted[v];
            if (now.isVoter(whom) && now.has[whom] >= wanted
                    && now.has[whom] - weight(now.kinds[v]) < wanted) {
                set |= 1 << v;
            }
        }
        return set;
    }

    public int splits(int votes, int c) {
        if (!isWithin(votes, 0, MOST_SPLIT_VOTES) || !isWithin(c, 1, MOST_SPLIT_AMONG)) {
            return BAD;
        }
        Arrays.fill(ways, 0);
        ways[0] = 1;
        for (int i = 0; i < c; i++) {
            // From the most down: the ways of fewer votes are still those of one voter less.
            for (int sum = votes; sum >= 0; sum--) {
                ways[sum] = waysWithOneMore(sum, votes);
            }
        }
        return ways[votes];
    }

    // ---- what will be

    public int behind(int n, int what) {
        boolean known = isWithin(what, 0, 2) || (what >= 3 && now.isVoter(what - 3));
        if (!isWithin(n, 0, MOST_ROUNDS) || !known) {
            return BAD;
        }
        thought.become(now);
        thought.go(n);
        switch (what) {
            case 0:
                return thought.chosen;
            case 1:
                return thought.mostVotes();
            case 2:
                return thought.smoke;
            default:
                return thought.voted[what - 3];
        }
    }

    public int ends() {
        thought.become(now);
        for (int n = 0; n <= MOST_ROUNDS; n++) {
            if (thought.chosen != NOBODY) {
                return n;
            }
            thought.round();
        }
        return NONE;
    }

    public int won(int n, int voter, int what) {
        if (!isWithin(n, 1, MOST_THOUGHT) || !now.isVoter(voter) || !isWithin(what, 0, 1)) {
            return BAD;
        }
        int best = 0;
        int most = -1;
        for (int v = 0; v < now.voters; v++) {
            thought.become(now);
            thought.likes[v] = voter;
            thought.go(n);
            if (thought.has[voter] > most) {
                best = v;
                most = thought.has[voter];
            }
        }
        return what == 0 ? best : most;
    }

    public int party(int n) {
        if (!isWithin(n, 1, MOST_THOUGHT)) {
            return BAD;
        }
        for (int p = 0; p < PARTIES; p++) {
            thought.become(now);
            thought.convince(p);
            thought.go(n);
            if (thought.isVoter(thought.chosen) && thought.parties[thought.chosen] == p) {
                return p;
            }
        }
        return NONE;
    }

    public int smokes(int n) {
        if (!isWithin(n, 1, MOST_SMOKES)) {
            return BAD;
        }
        thought.become(now);
        int row = 0;
        for (int i = 0; i < n; i++) {
            thought.round();
            row = row * 4 + thought.smoke;
        }
        return row;
    }

    public int fits(int sheet, int what) {
        if (!isSheet(sheet) || !isWithin(what, 0, 1)) {
            return BAD;
        }
        Sheet row = sheets[sheet];
        if (row.isMissing()) {
            return NOTHING;
        }
        int best = 1;
        int least = differenceWith(1, row);
        for (int run = 2; run <= MOST_FITTED_RUN; run++) {
            int difference = differenceWith(run, row);
            if (difference < least) {
                best = run;
                least = difference;
            }
        }
        return what == 0 ? best : least;
    }

    public int fee() {
        int law = book.latest(FEE, now.texts);
        return law < 0 ? now.rounds : book.value(law, now.rounds, now.wind, 0);
    }

    public int fine(int voter) {
        if (!now.isVoter(voter)) {
            return BAD;
        }
        int wet = now.wets[voter];
        int law = book.latest(FINE, now.texts);
        return law < 0 ? wet : book.value(law, now.faiths[voter], wet, 0);
    }

    // ---- texts

    public int feed(int a, int b, int c) {
        if (tape.length + 12 > MOST_BYTES) {
            return FULL;
        }
        tape.addFour(a);
        tape.addFour(b);
        tape.addFour(c);
        return tape.length;
    }

    public int trim(int n) {
        if (!isWithin(n, 0, tape.length)) {
            return BAD;
        }
        tape.length = n;
        return n;
    }

    public int text() {
        int fault = tape.read();
        tape.length = 0;
        if (fault >= 0) {
            return -100 - fault;
        }
        if (now.texts >= MOST_TEXTS) {
            return FULL;
        }
        book.laws[now.texts] = tape.law();
        now.texts++;
        return now.texts - 1;
    }

    public int textTold(int text, int what) {
        if (!isWithin(text, 0, now.texts - 1) || !isWithin(what, 0, 1)) {
            return BAD;
        }
        Law law = book.laws[text];
        if (law == null) {
            return BAD;
        }
        return what == 0 ? law.key : law.leaves;
    }

    public int why(int key) {
        if (!isWithin(key, 0, KEYS - 1)) {
            return BAD;
        }
        int law = book.latest(key, now.texts);
        return law < 0 ? NONE : law;
    }

    // ---- sheets, slots

    public int sheet(int sheet, int sort, int n) {
        if (!isSheet(sheet) || !isWithin(sort, MISSING, FLOATS)) {
            return BAD;
        }
        if (sort == MISSING) {
            sheets[sheet].clear(MISSING, 0);
            return 0;
        }
        if (n > MOST_PLACES) {
            return BAD;
        }
        if (n < 0) {
            return SIZE;
        }
        sheets[sheet].clear(sort, n);
        return n;
    }

    public int mark(int sheet, int place, int v) {
        if (!isSheet(sheet)) {
            return BAD;
        }
        Sheet row = sheets[sheet];
        if (row.isMissing()) {
            return NOTHING;
        }
        if (!row.hasPlace(place)) {
            return INDEX;
        }
        if (row.sort == SHORTS) {
            if (v == NONE) {
                return KIND;
            }
            row.places[place] = (short) v;
            return 1;
        }
        if (v != NONE && !isWithin(v, -MOST_FLOAT, MOST_FLOAT)) {
            return BAD;
        }
        row.places[place] = v;
        return 1;
    }

    public int pour(int sheet) {
        if (!isSheet(sheet)) {
            return BAD;
        }
        Sheet row = sheets[sheet];
        if (row.isMissing()) {
            return NOTHING;
        }
        int otherwise = 0;
        for (int v = 0; v < now.voters && v < row.size; v++) {
            if (row.isNumber(v)) {
                int wet = held(row.places[v], 0, MOST_WET);
                otherwise += wet == now.wets[v] ? 0 : 1;
                now.wets[v] = wet;
            }
        }
        return otherwise;
    }

    public int reads(int sheet) {
        if (!isSheet(sheet)) {
            return BAD;
        }
        Sheet row = sheets[sheet];
        if (row.isMissing()) {
            return NOTHING;
        }
        for (int place = 0; place < row.size; place++) {
            boolean right = now.isVoter(place) && row.places[place] == now.has[place];
            if (row.isNumber(place) && !right) {
                return place;
            }
        }
        return NONE;
    }

    public int copy(int from, int place, int to, int at, int many) {
        if (!isSheet(from) || !isSheet(to)) {
            return BAD;
        }
        Sheet source = sheets[from];
        Sheet target = sheets[to];
        if (source.isMissing() || target.isMissing()) {
            return NOTHING;
        }
        if (source.sort != target.sort) {
            return KIND;
        }
        if (!source.hasStretch(place, many) || !target.hasStretch(at, many)) {
            return INDEX;
        }
        System.arraycopy(source.places, place, target.places, at, many);
        return many;
    }

    public int lay(int slot, int thing, int k) {
        if (!isSlot(slot) || !isWithin(thing, HOLDS_NOTHING, HOLDS_NUMBER)) {
            return BAD;
        }
        if (thing == HOLDS_VOTER && !now.isVoter(k)) {
            return BAD;
        }
        if (thing == HOLDS_SHEET) {
            if (!isSheet(k)) {
                return BAD;
            }
            if (sheets[k].isMissing()) {
                return NOTHING;
            }
        }
        Slot holder = slots[slot];
        int before = holder.thing;
        holder.thing = thing;
        if (thing == HOLDS_VOTER) {
            holder.kind = now.kinds[k];
            holder.faith = now.faiths[k];
        } else if (thing == HOLDS_SHEET) {
            holder.row.become(sheets[k]);
        } else if (thing == HOLDS_NUMBER) {
            holder.number = k;
        }
        return before;
    }

    public int ask(int slot, int kind) {
        if (!isSlot(slot) || !isWithin(kind, 0, KINDS - 1)) {
            return BAD;
        }
        Slot holder = slots[slot];
        if (holder.thing == HOLDS_NOTHING) {
            return NOTHING;
        }
        if (holder.thing != HOLDS_VOTER || !isOfKind(holder.kind, kind)) {
            return KIND;
        }
        return worth(holder.kind, holder.faith);
    }

    public int item(int slot, int place) {
        if (!isSlot(slot)) {
            return BAD;
        }
        Slot holder = slots[slot];
        if (holder.thing == HOLDS_NOTHING) {
            return NOTHING;
        }
        if (holder.thing != HOLDS_SHEET) {
            return KIND;
        }
        if (!holder.row.hasPlace(place)) {
            return INDEX;
        }
        return holder.row.isNumber(place) ? holder.row.places[place] : KIND;
    }

    public int rest(int slot, int n) {
        if (!isSlot(slot)) {
            return BAD;
        }
        Slot holder = slots[slot];
        if (holder.thing == HOLDS_NOTHING) {
            return NOTHING;
        }
        if (holder.thing != HOLDS_NUMBER) {
            return KIND;
        }
        return n == 0 ? NO : holder.number % n;
    }

    // ---- rows, images

    public int tell(int v) {
        if (waits >= MOST_WAITING) {
            return FULL;
        }
        waiting[waits] = v;
        waits++;
        return waits;
    }

    public int check(int n) {
        int given = waits;
        waits = 0;
        if (!isWithin(n, 1, MOST_CHECKED)) {
            return BAD;
        }
        if (!kept) {
            return NO;
        }
        thought.become(image);
        int due = 0;
        for (int i = 0; i < n && thought.day < LAST_DAY; i++) {
            thought.round();
            if (!isTold(due, given, thought.smoke)) {
                return 1 + due;
            }
            due++;
            if (!isTold(due, given, thought.mostVotes())) {
                return 1 + due;
            }
            due++;
        }
        return due < given ? 1 + due : 0;
    }

    public int keep() {
        image.become(now);
        kept = true;
        return now.voters;
    }

    public int back() {
        if (!kept) {
            return NO;
        }
        now.become(image);
        return now.voters;
    }

    public int count(int what) {
        switch (what) {
            case 0:
                return now.voters;
            case 1:
                return now.day;
            case 2:
                return now.rounds;
            case 3:
                return now.resin;
            case 4:
                return now.draft;
            case 5:
                return now.run;
            case 6:
                return now.texts;
            case 7:
                return waits;
            case 8:
                return tape.length;
            case 9:
                return now.z;
            default:
                return BAD;
        }
    }

    // ---- helpers of the calls

    private boolean isTold(int place, int given, int due) {
        return place < given && place < MOST_WAITING && waiting[place] == due;
    }

    /** In how many ways sum can fall on one voter more than the row of ways stands for. */
    private int waysWithOneMore(int sum, int votes) {
        int all = 0;
        for (int part = 0; part <= sum && part * 3 < votes * 2; part++) {
            all += ways[sum - part];
        }
        return all;
    }

    private int differenceWith(int run, Sheet row) {
        thought.become(now);
        thought.run = run;
        int all = 0;
        for (int place = 0; place < row.size; place++) {
            thought.round();
            if (row.isNumber(place)) {
                all += Math.abs(thought.smoke - row.places[place]);
            }
        }
        return all;
    }

    private static int put(int[] row, int place, int v, int most) {
        if (!isWithin(v, 0, most)) {
            return BAD;
        }
        int before = row[place];
        row[place] = v;
        return before;
    }

    private static boolean isWithin(int v, int least, int most) {
        return v >= least && v <= most;
    }

    private static int held(int v, int least, int most) {
        return Math.max(least, Math.min(most, v));
    }

    private static boolean isSheet(int sheet) {
        return isWithin(sheet, 0, SHEETS - 1);
    }

    private static boolean isSlot(int slot) {
        return isWithin(slot, 0, SLOTS - 1);
    }

    // ---- kinds

    private static boolean isOfKind(int kind, int wanted) {
        int at = kind;
        for (int i = 0; i < KINDS && isWithin(at, 0, KINDS - 1); i++) {
            if (at == wanted) {
                return true;
            }
            at = ABOVE[at];
        }
        return false;
    }

    private static int weight(int kind) {
        return kind == STRAW ? 2 : 1;
    }

    private static int worth(int kind, int faith) {
        switch (kind) {
            case LOYAL:
                return faith + 6;
            case WHIP:
                return 2 * (faith + 6);
            case SWAYED:
                return 99 - faith;
            case SICK:
                return 99 - faith - 8;
            case STRAW:
                return 2;
            default:
                return faith;
        }
    }

    /** All that an image keeps: the voters, the stove, the conclave and how many texts are told. */
    private static final class Conclave {
        final LawBook book;
        final int[] kinds = new int[MOST_VOTERS];
        final int[] likes = new int[MOST_VOTERS];
        final int[] parties = new int[MOST_VOTERS];
        final int[] faiths = new int[MOST_VOTERS];
        final int[] wets = new int[MOST_VOTERS];
        final int[] voted = new int[MOST_VOTERS];
        /** What the votes of the latest round come to, by the kinds as they are now. */
        final int[] has = new int[MOST_VOTERS];
        int voters = 0;
        int resin = 0;
        int draft = 50;
        int run = 10;
        int wind = 0;
        int chosen = NOBODY;
        int rounds = 0;
        int day = 0;
        int z = 1;
        int smoke = BLACK;
        /** The first so many laws of the book are told here; images share the book's laws. */
        int texts = 0;

        Conclave(LawBook book) {
            this.book = book;
        }

        void become(Conclave other) {
            voters = other.voters;
            resin = other.resin;
            draft = other.draft;
            run = other.run;
            wind = other.wind;
            chosen = other.chosen;
            rounds = other.rounds;
            day = other.day;
            z = other.z;
            smoke = other.smoke;
            texts = other.texts;
            System.arraycopy(other.kinds, 0, kinds, 0, MOST_VOTERS);
            System.arraycopy(other.likes, 0, likes, 0, MOST_VOTERS);
            System.arraycopy(other.parties, 0, parties, 0, MOST_VOTERS);
            System.arraycopy(other.faiths, 0, faiths, 0, MOST_VOTERS);
            System.arraycopy(other.wets, 0, wets, 0, MOST_VOTERS);
            System.arraycopy(other.voted, 0, voted, 0, MOST_VOTERS);
            System.arraycopy(other.has, 0, has, 0, MOST_VOTERS);
        }

        boolean isVoter(int v) {
            return v >= 0 && v < voters;
        }

        /** Only where there is room. */
        void enter(int kind, int like, int party, int faith) {
            if (voters >= MOST_VOTERS) {
                return;
            }
            kinds[voters] = kind;
            likes[voters] = like;
            parties[voters] = party;
            faiths[voters] = faith;
            wets[voters] = 3;
            voted[voters] = NOBODY;
            has[voters] = 0;
            voters++;
        }

        void enterDrawn() {
            int kind = draw() % KINDS;
            int like = draw() % MOST_VOTERS;
            int party = draw() % PARTIES;
            int faith = draw() % 100;
            enter(kind, like, party, faith);
        }

        int draw() {
            z = z * 1103515245 + 12345;
            return z >>> 8;
        }

        void startOver() {
            chosen = NOBODY;
            rounds = 0;
            smoke = BLACK;
            Arrays.fill(voted, NOBODY);
            Arrays.fill(has, 0);
        }

        void convince(int party) {
            for (int v = 0; v < voters; v++) {
                if (parties[v] == party) {
                    faiths[v] = MOST_FAITH;
                }
            }
        }

        void go(int n) {
            for (int i = 0; i < n; i++) {
                round();
            }
        }

        void round() {
            day++;
            if (chosen != NOBODY || voters == 0) {
                return;
            }
            int runners = runners();
            int leader = leader();
            // All vote by HAS alone, which stays as it was until the tally: nobody sees a new vote.
            for (int v = 0; v < voters; v++) {
                voted[v] = choice(v, runners, leader);
            }
            rounds++;
            tally();
            chosen = elected();
            smoke = smokeNow();
            wind = draw() % 4;
            wetPapers();
        }

        void tally() {
            Arrays.fill(has, 0);
            for (int v = 0; v < voters; v++) {
                if (isVoter(voted[v])) {
                    has[voted[v]] += weight(kinds[v]);
                }
            }
        }

        int elected() {
            int wanted = wanted();
            for (int v = 0; v < voters; v++) {
                if (has[v] >= wanted) {
                    return v;
                }
            }
            return NOBODY;
        }

        int wanted() {
            int all = 0;
            for (int v = 0; v < voters; v++) {
                all += weight(kinds[v]);
            }
            return (2 * all + 2) / 3;
        }

        int smokeNow() {
            if (chosen != NOBODY) {
                return WHITE;
            }
            int damp = resin - draft / 10;
            for (int v = 0; v < voters; v++) {
                if (voted[v] != NOBODY) {
                    damp += wets[v];
                }
            }
            if (damp < 10) {
                return GREY;
            }
            return damp < 25 ? DARK : BLACK;
        }

        void wetPapers() {
            for (int v = 0; v < voters; v++) {
                if (voted[v] != NOBODY) {
                    wets[v] = draw() % 10;
                }
            }
        }

        /** The one with the most, though that be 0; nobody, if there are no voters. */
        int leader() {
            return mostAmong((1 << voters) - 1);
        }

        int mostVotes() {
            int leader = leader();
            return isVoter(leader) ? has[leader] : 0;
        }

        int runners() {
            int all = (1 << voters) - 1;
            int first = mostAmong(all);
            if (rounds < run || !isVoter(first) || has[first] == 0) {
                return all;
            }
            int second = mostAmong(all & ~(1 << first));
            if (!isVoter(second) || has[second] == 0) {
                return 1 << first;
            }
            return 1 << first | 1 << second;
        }

        int mostAmong(int set) {
            int best = NOBODY;
            int most = -1;
            for (int v = 0; v < voters; v++) {
                if ((set >> v & 1) == 1 && has[v] > most) {
                    best = v;
                    most = has[v];
                }
            }
            return best;
        }

        /** Whom a voter votes for next. The leader of all is always the leader of the runners too. */
        int choice(int v, int runners, int leader) {
            switch (kinds[v]) {
                case LOYAL:
                    return choiceOfLoyal(v, runners, leader);
                case WHIP:
                    boolean itself = (runners >> v & 1) == 1 && faiths[v] >= 50;
                    return itself ? v : choiceOfLoyal(v, runners, leader);
                case SWAYED:
                    return choiceOfSwayed(v, runners, leader);
                case SICK:
                    return rounds % 2 != 0 ? NOBODY : choiceOfSwayed(v, runners, leader);
                default:
                    return choiceOfPlain(v, runners, leader);
            }
        }

        int choiceOfPlain(int v, int runners, int leader) {
            return (runners >> likes[v] & 1) == 1 ? likes[v] : leader;
        }

        int choiceOfLoyal(int v, int runners, int leader) {
            int own = 0;
            for (int w = 0; w < voters; w++) {
                if (parties[w] == parties[v]) {
                    own |= 1 << w;
                }
            }
            int best = mostAmong(runners & own);
            return best == NOBODY ? choiceOfPlain(v, runners, leader) : best;
        }

        int choiceOfSwayed(int v, int runners, int leader) {
            int law = book.latest(SWAY, texts);
            int given = law < 0 ? faiths[v] / 10 : book.value(law, faiths[v], rounds, parties[v]);
            boolean swayed = isVoter(leader) && has[leader] > held(given, 0, 99);
            return swayed ? leader : choiceOfPlain(v, runners, leader);
        }
    }

    /** One text as steps: what stands before a sign is worked out before it. */
    private static final class Law {
        final int key;
        final int leaves;
        final int[] code;

        Law(int key, int leaves, int[] code) {
            this.key = key;
            this.leaves = leaves;
            this.code = code;
        }
    }

    /**
     * The laws by number. Texts are only ever added behind those that an image knows of, so that an
     * image needs no more of them than how many there were.
     */
    private static final class LawBook {
        final Law[] laws = new Law[MOST_TEXTS];
        private final int[] stack = new int[MOST_BYTES];

        /** The number of the law told last of a key, among the first so many; -1: there is none. */
        int latest(int key, int among) {
            for (int i = Math.min(among, MOST_TEXTS) - 1; i >= 0; i--) {
                Law law = laws[i];
                if (law != null && law.key == key) {
                    return i;
                }
            }
            return -1;
        }

        /** What a law gives, if its key's names stand for a, b and c in turn. */
        int value(int number, int a, int b, int c) {
            Law law = isWithin(number, 0, MOST_TEXTS - 1) ? laws[number] : null;
            if (law == null) {
                return 0;
            }
            int top = 0;
            for (int i = 0; i < law.code.length; i++) {
                int step = law.code[i];
                if (step < SIGNS_FROM) {
                    if (top < stack.length) {
                        stack[top] = leaf(step, a, b, c);
                        top++;
                    }
                } else if (step == SIGNS_FROM + '!') {
                    if (top >= 1) {
                        stack[top - 1] = truth(stack[top - 1] == 0);
                    }
                } else if (top >= 2) {
                    top--;
                    stack[top - 1] = joined(step - SIGNS_FROM, stack[top - 1], stack[top]);
                }
            }
            return top > 0 ? stack[0] : 0;
        }

        private static int leaf(int step, int a, int b, int c) {
            switch (step) {
                case NAMES_FROM:
                    return a;
                case NAMES_FROM + 1:
                    return b;
                case NAMES_FROM + 2:
                    return c;
                default:
                    return step;
            }
        }

        private static int joined(int sign, int left, int right) {
            switch (sign) {
                case '|':
                    return truth(left != 0 || right != 0);
                case '&':
                    return truth(left != 0 && right != 0);
                case '<':
                    return truth(left < right);
                case '=':
                    return truth(left == right);
                case '>':
                    return truth(left > right);
                case '+':
                    return left + right;
                case '-':
                    return left - right;
                case '*':
                    return left * right;
                default:
                    return right == 0 ? 0 : left / right;
            }
        }

        private static int truth(boolean is) {
            return is ? 1 : 0;
        }
    }

    /**
     * The tape, and the reading of it as a text. A method that reads a part answers whether it
     * stood there; if not, the word or sign at hand is the fault and nothing reads on.
     */
    private static final class Reader {
        private static final int END = 0;
        private static final int LETTERS = 1;
        private static final int NUMBER = 2;
        private static final int SIGN = 3;
        /** A word that can stand nowhere: too long a number, or one that lacks its blank. */
        private static final int BROKEN = 4;

        private static final int LOOSEST = 0;
        private static final int TEST = 2;
        private static final int TIGHTEST = 4;
        private static final int MOST_OPEN = 8;
        private static final int MOST_DIGITS = 4;

        private final int[] bytes = new int[MOST_BYTES];
        int length = 0;

        /** The word or sign at hand: its sort, its first byte, the place behind it, its value. */
        private int sort = END;
        private int start = 0;
        private int end = 0;
        private int value = 0;

        private int key = 0;
        private int leaves = 0;
        private final int[] code = new int[MOST_BYTES];
        private int steps = 0;

        /** Only where there is room. */
        void addFour(int four) {
            for (int shift = 24; shift >= 0 && length < MOST_BYTES; shift -= 8) {
                bytes[length] = four >>> shift & 255;
                length++;
            }
        }

        /** The place of the fault; -1: the tape is a text. */
        int read() {
            sort = END;
            end = 0;
            leaves = 0;
            steps = 0;
            next();
            boolean right = readKey() && readChain(LOOSEST, 0, 0) && sort == END;
            return right ? -1 : start;
        }

        /** The text that was read last. */
        Law law() {
            return new Law(key, leaves, Arrays.copyOf(code, steps));
        }

        private void next() {
            boolean wasWord = sort == LETTERS || sort == NUMBER;
            int behind = end;
            start = end;
            while (start < length && bytes[start] == ' ') {
                start++;
            }
            end = start;
            if (start >= length) {
                sort = END;
                return;
            }
            value = bytes[start];
            sort = sortOf(value);
            end = sort == SIGN ? start + 1 : endOfWord();
            if (sort == NUMBER) {
                readValue();
            }
            if (sort != SIGN && wasWord && start == behind) {
                sort = BROKEN;
            }
        }

        private static int sortOf(int b) {
            if (b >= 'a' && b <= 'z') {
                return LETTERS;
            }
            return b >= '0' && b <= '9' ? NUMBER : SIGN;
        }

        private int endOfWord() {
            int at = start;
            while (at < length && sortOf(bytes[at]) == sort) {
                at++;
            }
            return at;
        }

        private void readValue() {
            if (end - start > MOST_DIGITS) {
                sort = BROKEN;
                return;
            }
            value = 0;
            for (int i = start; i < end; i++) {
                value = value * 10 + bytes[i] - '0';
            }
        }

        private boolean readKey() {
            for (int i = 0; i < KEYS; i++) {
                if (isWord(nameOfKey(i))) {
                    key = i;
                    next();
                    return true;
                }
            }
            return false;
        }

        private boolean isWord(String word) {
            if (sort != LETTERS || end - start != word.length()) {
                return false;
            }
            for (int i = 0; i < word.length(); i++) {
                if (bytes[start + i] != word.charAt(i)) {
                    return false;
                }
            }
            return true;
        }

        private static String nameOfKey(int key) {
            switch (key) {
                case SWAY:
                    return "sway";
                case FEE:
                    return "fee";
                default:
                    return "fine";
            }
        }

        /** The names of a key, in the turn in which a law is given what they stand for. */
        private static String namesOfKey(int key) {
            switch (key) {
                case SWAY:
                    return "frp";
                case FEE:
                    return "rw";
                default:
                    return "fw";
            }
        }

        private static String signsOf(int level) {
            switch (level) {
                case 0:
                    return "|";
                case 1:
                    return "&";
                case TEST:
                    return "<=>";
                case 3:
                    return "+-";
                default:
                    return "*/";
            }
        }

        /** Parts of the next tighter level, joined by signs of this one; of tests by one sign alone. */
        private boolean readChain(int level, int parens, int nots) {
            if (level > TIGHTEST) {
                return readPiece(parens, nots);
            }
            if (!readChain(level + 1, parens, nots)) {
                return false;
            }
            int most = level == TEST ? 1 : MOST_BYTES;
            for (int i = 0; i < most && isOneOf(signsOf(level)); i++) {
                int sign = value;
                next();
                if (!readChain(level + 1, parens, nots)) {
                    return false;
                }
                add(SIGNS_FROM + sign);
            }
            return true;
        }

        private boolean isOneOf(String signs) {
            return sort == SIGN && signs.indexOf((char) value) >= 0;
        }

        private boolean readPiece(int parens, int nots) {
            if (sort == NUMBER) {
                return addLeaf(value);
            }
            if (sort == LETTERS) {
                int name = namesOfKey(key).indexOf((char) value);
                return end - start == 1 && name >= 0 && addLeaf(NAMES_FROM + name);
            }
            if (isOneOf("!") && nots < MOST_OPEN) {
                next();
                return readPiece(parens, nots + 1) && add(SIGNS_FROM + '!');
            }
            if (isOneOf("(") && parens < MOST_OPEN) {
                next();
                return readChain(LOOSEST, parens + 1, nots) && readClosing();
            }
            return false;
        }

        private boolean readClosing() {
            if (!isOneOf(")")) {
                return false;
            }
            next();
            return true;
        }

        private boolean addLeaf(int step) {
            leaves++;
            next();
            return add(step);
        }

        /** No tape has more steps than bytes: there is always room. */
        private boolean add(int step) {
            if (steps >= MOST_BYTES) {
                return false;
            }
            code[steps] = step;
            steps++;
            return true;
        }
    }

    /** A row of shorts or floats, or none. NONE in a place of floats stands for no number. */
    private static final class Sheet {
        final int[] places = new int[MOST_PLACES];
        int sort = MISSING;
        int size = 0;

        boolean isMissing() {
            return sort == MISSING;
        }

        boolean hasPlace(int place) {
            return place >= 0 && place < size;
        }

        /** Whether so many places stand there from a place on. */
        boolean hasStretch(int place, int many) {
            return place >= 0 && many >= 0 && place <= size && many <= size - place;
        }

        boolean isNumber(int place) {
            return hasPlace(place) && places[place] != NONE;
        }

        void clear(int newSort, int newSize) {
            sort = newSort;
            size = newSize;
            Arrays.fill(places, 0);
        }

        void become(Sheet other) {
            sort = other.sort;
            size = other.size;
            System.arraycopy(other.places, 0, places, 0, MOST_PLACES);
        }
    }

    /** What it holds is told by thing; the other fields count only for their own sort of thing. */
    private static final class Slot {
        final Sheet row = new Sheet();
        int thing = HOLDS_NOTHING;
        int kind = 0;
        int faith = 0;
        int number = 0;
    }
}
