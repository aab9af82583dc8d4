import java.util.ArrayList;
import java.util.Arrays;
import java.util.HashMap;
import java.util.List;
import java.util.Map;

/**
 * The document a second time, written as differently from SmokeVotes as could be (kinds are classes,
 * nothing is remembered that can be worked out, thoughts are deep copies, texts go through a machine
 * of two states), so that the two are unlikely to share a slip.
 */
final class Model {
    static final int BAD = -1000000001, NO = -1000000002, FULL = -1000000003, NONE = -1000000005,
            NOTHING = -1000000011, KIND = -1000000012, INDEX = -1000000013, SIZE = -1000000014;

    static class Voter {
        int likes, party, faith, wet = 3, voted = -1;

        int counts() {
            return 1;
        }

        int worth() {
            return faith;
        }

        int votes(World w, int me) {
            List<Integer> runners = w.runners();
            return runners.contains(likes) ? likes : w.most(runners);
        }

        final int number() {
            return Arrays.asList(Voter.class, Loyal.class, Swayed.class, Whip.class, Sick.class, Straw.class)
                    .indexOf(getClass());
        }

        final boolean is(int kind) {
            return fresh(kind).getClass().isInstance(this);
        }

        final Voter turned(int kind) {
            Voter v = fresh(kind);
            v.likes = likes;
            v.party = party;
            v.faith = faith;
            v.wet = wet;
            v.voted = voted;
            return v;
        }
    }

    static class Loyal extends Voter {
        @Override int worth() {
            return super.worth() + 6;
        }

        @Override int votes(World w, int me) {
            List<Integer> own = new ArrayList<>();
            for (int r : w.runners()) {
                if (w.voters.get(r).party == party) {
                    own.add(r);
                }
            }
            return own.isEmpty() ? super.votes(w, me) : w.most(own);
        }
    }

    static class Whip extends Loyal {
        @Override int worth() {
            return super.worth() * 2;
        }

        @Override int votes(World w, int me) {
            return faith >= 50 && w.runners().contains(me) ? me : super.votes(w, me);
        }
    }

    static class Swayed extends Voter {
        @Override int worth() {
            return 99 - faith;
        }

        @Override int votes(World w, int me) {
            Text t = w.counting(0);
            int limit = t == null ? faith / 10 : t.gives(Map.of('f', faith, 'r', w.rounds, 'p', party));
            limit = limit < 0 ? 0 : limit > 99 ? 99 : limit;
            int top = w.most(w.runners());
            return w.has(top) > limit ? top : super.votes(w, me);
        }
    }

    static class Sick extends Swayed {
        @Override int worth() {
            return super.worth() - 8;
        }

        @Override int votes(World w, int me) {
            return w.rounds % 2 == 1 ? -1 : super.votes(w, me);
        }
    }

    static class Straw extends Voter {
        @Override int counts() {
            return 2;
        }

        @Override int worth() {
            return 2;
        }
    }

    static Voter fresh(int kind) {
        switch (kind) {
            case 0: return new Voter();
            case 1: return new Loyal();
            case 2: return new Swayed();
            case 3: return new Whip();
            case 4: return new Sick();
            default: return new Straw();
        }
    }

    static final class World {
        final List<Voter> voters = new ArrayList<>();
        final List<Text> texts = new ArrayList<>();
        int resin, draft = 50, wind, run = 10, chosen = -1, rounds, day, z = 1, smoke = 3;

        World copy() {
            World w = new World();
            for (Voter v : voters) {
                w.voters.add(v.turned(v.number()));
            }
            w.texts.addAll(texts);
            w.resin = resin;
            w.draft = draft;
            w.wind = wind;
            w.run = run;
            w.chosen = chosen;
            w.rounds = rounds;
            w.day = day;
            w.z = z;
            w.smoke = smoke;
            return w;
        }

        int draw() {
            z = z * 1103515245 + 12345;
            return z >>> 8;
        }

        int has(int whom) {
            int sum = 0;
            for (Voter v : voters) {
                sum += v.voted == whom ? v.counts() : 0;
            }
            return sum;
        }

        List<Integer> all() {
            List<Integer> list = new ArrayList<>();
            for (int i = 0; i < voters.size(); i++) {
                list.add(i);
            }
            return list;
        }

        List<Integer> byVotes() {
            List<Integer> list = all();
            list.sort((a, b) -> has(a) != has(b) ? has(b) - has(a) : a - b);
            return list;
        }

        List<Integer> runners() {
            List<Integer> some = byVotes();
            some.removeIf(v -> has(v) == 0);
            if (rounds < run || some.isEmpty()) {
                return all();
            }
            return some.subList(0, Math.min(2, some.size()));
        }

        int most(List<Integer> among) {
            List<Integer> list = byVotes();
            list.retainAll(among);
            return list.get(0);
        }

        int mostHas() {
            return voters.isEmpty() ? 0 : has(byVotes().get(0));
        }

        int wanted() {
            int sum = voters.stream().mapToInt(Voter::counts).sum();
            int w = 0;
            while (3 * w < 2 * sum) {
                w++;
            }
            return w;
        }

        Text counting(int key) {
            Text last = null;
            for (Text t : texts) {
                if (t.key == key) {
                    last = t;
                }
            }
            return last;
        }

        void round() {
            day++;
            if (chosen >= 0 || voters.isEmpty()) {
                return;
            }
            int[] votes = new int[voters.size()];
            for (int i = 0; i < votes.length; i++) {
                votes[i] = voters.get(i).votes(this, i);
            }
            int damp = 0;
            for (int i = 0; i < votes.length; i++) {
                voters.get(i).voted = votes[i];
                damp += votes[i] >= 0 ? voters.get(i).wet : 0;
            }
            damp = Math.max(0, damp + resin - draft / 10);
            rounds++;
            for (int i = votes.length - 1; i >= 0; i--) {
                chosen = has(i) >= wanted() ? i : chosen;
            }
            smoke = chosen >= 0 ? 0 : damp < 10 ? 1 : damp < 25 ? 2 : 3;
            wind = draw() % 4;
            for (Voter v : voters) {
                if (v.voted >= 0) {
                    v.wet = draw() % 10;
                }
            }
        }

        World later(int n) {
            World w = copy();
            for (int i = 0; i < n; i++) {
                w.round();
            }
            return w;
        }
    }

    /** Reads by two states: one that wants a piece, one that wants a sign or the end. */
    static final class Text {
        private static final String[] KEYS = {"sway", "fee", "fine"};
        private static final String[] NAMES = {"frp", "rw", "fw"};
        int key = -1, leaves, fault = -1;
        private final List<String> words = new ArrayList<>();

        Text(int[] bytes, int length) {
            int at = 0, open = 0;
            int[] pendingNots = new int[10];
            boolean[] tested = new boolean[10];
            boolean wantsPiece = true;
            int lastWordEnd = -1;
            while (true) {
                while (at < length && bytes[at] == 32) {
                    at++;
                }
                if (at == length) {
                    fault = key < 0 || wantsPiece || open > 0 ? length : -1;
                    return;
                }
                int from = at;
                String word = cut(bytes, length, at);
                at += word.length();
                boolean isWord = Character.isLetterOrDigit(word.charAt(0)) && word.charAt(0) < 128
                        && !Character.isUpperCase(word.charAt(0));
                boolean right = !(isWord && from == lastWordEnd);
                lastWordEnd = isWord ? at : -1;
                if (right && key < 0) {
                    key = Arrays.asList(KEYS).indexOf(word);
                    right = key >= 0;
                } else if (right && wantsPiece) {
                    int nots = Arrays.stream(pendingNots).sum();
                    if (word.equals("!") && nots < 8) {
                        pendingNots[open]++;
                    } else if (word.equals("(") && open < 8) {
                        open++;
                        tested[open] = false;
                    } else if (isLeaf(word)) {
                        leaves++;
                        wantsPiece = false;
                        pendingNots[open] = 0;
                    } else {
                        right = false;
                    }
                    words.add(word);
                } else if (right) {
                    words.add(word);
                    if (word.equals(")") && open > 0) {
                        open--;
                        pendingNots[open] = 0;
                    } else if ("|&+-*/".contains(word) || ("<=>".contains(word) && !tested[open])) {
                        wantsPiece = true;
                        tested[open] = "<=>".contains(word) || (tested[open] && !"|&".contains(word));
                    } else {
                        right = false;
                    }
                }
                if (!right) {
                    fault = from;
                    return;
                }
            }
        }

        private boolean isLeaf(String word) {
            return word.matches("[0-9]{1,4}") || (word.matches("[a-z]") && NAMES[key].contains(word));
        }

        private static String cut(int[] bytes, int length, int at) {
            StringBuilder all = new StringBuilder();
            for (int i = at; i < length; i++) {
                all.append((char) bytes[i]);
            }
            String letters = all.toString().replaceFirst("(?s)[^a-z].*", "");
            String digits = all.toString().replaceFirst("(?s)[^0-9].*", "");
            return !letters.isEmpty() ? letters : !digits.isEmpty() ? digits : all.substring(0, 1);
        }

        int gives(Map<Character, Integer> names) {
            return value(words, names);
        }

        /** Splits at the loosest, last sign outside of brackets and works out both sides. */
        private static int value(List<String> w, Map<Character, Integer> names) {
            for (String level : new String[] {"|", "&", "<=>", "+-", "*/"}) {
                int open = 0;
                for (int i = w.size() - 1; i > 0; i--) {
                    String s = w.get(i);
                    open += s.equals(")") ? 1 : s.equals("(") ? -1 : 0;
                    if (open == 0 && level.contains(s)) {
                        return join(s, value(w.subList(0, i), names), value(w.subList(i + 1, w.size()), names));
                    }
                }
            }
            String first = w.get(0);
            if (first.equals("!")) {
                return value(w.subList(1, w.size()), names) == 0 ? 1 : 0;
            }
            if (first.equals("(")) {
                return value(w.subList(1, w.size() - 1), names);
            }
            return names.containsKey(first.charAt(0)) ? names.get(first.charAt(0)) : Integer.parseInt(first);
        }

        private static int join(String s, int a, int b) {
            boolean is;
            switch (s) {
                case "+": return a + b;
                case "-": return a - b;
                case "*": return a * b;
                case "/": return b == 0 ? 0 : a / b;
                case "|": is = a != 0 | b != 0; break;
                case "&": is = a != 0 & b != 0; break;
                case "<": is = a < b; break;
                case ">": is = a > b; break;
                default: is = a == b;
            }
            return is ? 1 : 0;
        }
    }

    World now = new World(), image;
    final short[][] shorts = new short[4][];
    final float[][] floats = new float[4][];
    final Object[] slots = new Object[5];
    final List<Integer> waiting = new ArrayList<>();
    final int[] tape = new int[96];
    int tapeLength;

    private boolean is(int voter) {
        return voter >= 0 && voter < now.voters.size();
    }

    private static boolean in(int v, int least, int most) {
        return least <= v && v <= most;
    }

    int voter(int kind, int likes, int party, int faith) {
        if (!in(kind, 0, 5) || !in(likes, 0, 9) || !in(party, 0, 3) || !in(faith, 0, 99)) {
            return BAD;
        }
        if (now.voters.size() == 10) {
            return FULL;
        }
        Voter v = fresh(kind);
        v.likes = likes;
        v.party = party;
        v.faith = faith;
        now.voters.add(v);
        return now.voters.size() - 1;
    }

    int told(int voter, int what) {
        if (!is(voter) || !in(what, 0, 9)) {
            return BAD;
        }
        Voter v = now.voters.get(voter);
        int[] parts = {v.number(), v.likes, v.party, v.faith, v.wet, v.voted, now.has(voter), v.votes(now, voter),
            v.counts(), v.worth()};
        return parts[what];
    }

    int as(int voter, int kind) {
        if (!is(voter) || !in(kind, 0, 5)) {
            return BAD;
        }
        Voter v = now.voters.get(voter);
        return v.is(kind) ? v.faith : KIND;
    }

    int turns(int voter, int kind) {
        if (!is(voter) || !in(kind, 0, 5)) {
            return BAD;
        }
        Voter v = now.voters.get(voter);
        now.voters.set(voter, v.turned(kind));
        return v.number();
    }

    int set(int voter, int what, int v) {
        int[] most = {-1, 9, 3, 99, 9};
        if (!is(voter) || !in(what, 1, 4) || !in(v, 0, most[what])) {
            return BAD;
        }
        int before = told(voter, what);
        Voter w = now.voters.get(voter);
        w.likes = what == 1 ? v : w.likes;
        w.party = what == 2 ? v : w.party;
        w.faith = what == 3 ? v : w.faith;
        w.wet = what == 4 ? v : w.wet;
        return before;
    }

    int rule(int what, int v) {
        if (!in(what, 0, 2) || !in(v, what == 2 ? 1 : 0, 99)) {
            return BAD;
        }
        int before = count(3 + what);
        now.resin = what == 0 ? v : now.resin;
        now.draft = what == 1 ? v : now.draft;
        now.run = what == 2 ? v : now.run;
        return before;
    }

    int again() {
        int before = now.rounds;
        now.chosen = -1;
        now.rounds = 0;
        now.smoke = 3;
        for (Voter v : now.voters) {
            v.voted = -1;
        }
        return before;
    }

    int deal(int n) {
        if (!in(n, 1, 10)) {
            return BAD;
        }
        int came = 0;
        while (came < n && now.voters.size() < 10) {
            Voter v = fresh(now.draw() % 6);
            v.likes = now.draw() % 10;
            v.party = now.draw() % 4;
            v.faith = now.draw() % 100;
            now.voters.add(v);
            came++;
        }
        return came;
    }

    int seed(int v) {
        int before = now.z;
        now.z = v;
        return before;
    }

    int rounds(int n) {
        if (!in(n, 1, 100)) {
            return BAD;
        }
        for (int i = 0; i < n && now.day < 9999; i++) {
            now.round();
        }
        return now.chosen;
    }

    int conclave(int what) {
        switch (what) {
            case 0: return now.chosen;
            case 1: return now.wanted();
            case 2: return now.smoke;
            case 3: return now.wind;
            case 4: return bits(now.runners());
            case 5: return now.mostHas() == 0 ? NONE : now.byVotes().get(0);
            default: return BAD;
        }
    }

    private static int bits(List<Integer> list) {
        int set = 0;
        for (int v : list) {
            set += 1 << v;
        }
        return set;
    }

    int butOne() {
        List<Integer> list = now.all();
        list.removeIf(v -> now.has(v) + 1 != now.wanted());
        return bits(list);
    }

    int decides() {
        List<Integer> list = new ArrayList<>();
        for (int v : now.all()) {
            World w = now.copy();
            w.voters.get(v).voted = -1;
            for (int whom : now.all()) {
                if (now.has(whom) >= now.wanted() && w.has(whom) < now.wanted()) {
                    list.add(v);
                }
            }
        }
        return bits(list);
    }

    int splits(int votes, int c) {
        return in(votes, 0, 12) && in(c, 1, 6) ? waysOf(votes, votes, c) : BAD;
    }

    private static int waysOf(int left, int votes, int c) {
        if (c == 0) {
            return left == 0 ? 1 : 0;
        }
        int sum = 0;
        for (int part = 0; part <= left; part++) {
            sum += 3 * part < 2 * votes ? waysOf(left - part, votes, c - 1) : 0;
        }
        return sum;
    }

    int behind(int n, int what) {
        if (!in(n, 0, 100) || !in(what, 0, 2 + now.voters.size())) {
            return BAD;
        }
        World w = now.later(n);
        return what == 0 ? w.chosen : what == 1 ? w.mostHas() : what == 2 ? w.smoke : w.voters.get(what - 3).voted;
    }

    int ends() {
        World w = now.copy();
        for (int n = 0; n <= 100; n++, w.round()) {
            if (w.chosen >= 0) {
                return n;
            }
        }
        return NONE;
    }

    int won(int n, int voter, int what) {
        if (!in(n, 1, 40) || !is(voter) || !in(what, 0, 1)) {
            return BAD;
        }
        int[] left = new int[now.voters.size()];
        for (int v = 0; v < left.length; v++) {
            World w = now.copy();
            w.voters.get(v).likes = voter;
            left[v] = w.later(n).has(voter);
        }
        int most = Arrays.stream(left).max().getAsInt();
        int one = 0;
        while (left[one] != most) {
            one++;
        }
        return what == 0 ? one : most;
    }

    int party(int n) {
        if (!in(n, 1, 40)) {
            return BAD;
        }
        int found = NONE;
        for (int p = 3; p >= 0; p--) {
            World w = now.copy();
            for (Voter v : w.voters) {
                v.faith = v.party == p ? 99 : v.faith;
            }
            w = w.later(n);
            found = w.chosen >= 0 && w.voters.get(w.chosen).party == p ? p : found;
        }
        return found;
    }

    int smokes(int n) {
        if (!in(n, 1, 12)) {
            return BAD;
        }
        StringBuilder digits = new StringBuilder();
        for (int i = 1; i <= n; i++) {
            digits.append(now.later(i).smoke);
        }
        return Integer.parseInt(digits.toString(), 4);
    }

    private boolean missing(int sheet) {
        return shorts[sheet] == null && floats[sheet] == null;
    }

    private int size(int sheet) {
        return shorts[sheet] != null ? shorts[sheet].length : floats[sheet].length;
    }

    /** A place of a sheet as a number; null: no number. */
    private Integer place(int sheet, int place) {
        if (shorts[sheet] != null) {
            return (int) shorts[sheet][place];
        }
        return Float.isNaN(floats[sheet][place]) ? null : (Integer) (int) floats[sheet][place];
    }

    int fits(int sheet, int what) {
        if (!in(sheet, 0, 3) || !in(what, 0, 1)) {
            return BAD;
        }
        if (missing(sheet)) {
            return NOTHING;
        }
        Map<Integer, Integer> byRun = new HashMap<>();
        for (int run = 1; run <= 20; run++) {
            World w = now.copy();
            w.run = run;
            int sum = 0;
            for (int k = 0; k < size(sheet); k++) {
                w.round();
                sum += place(sheet, k) == null ? 0 : Math.abs(place(sheet, k) - w.smoke);
            }
            byRun.put(run, sum);
        }
        int least = byRun.values().stream().min(Integer::compare).get();
        int run = 1;
        while (byRun.get(run) != least) {
            run++;
        }
        return what == 0 ? run : least;
    }

    int fee() {
        Text t = now.counting(1);
        return t == null ? now.rounds : t.gives(Map.of('r', now.rounds, 'w', now.wind));
    }

    int fine(int voter) {
        if (!is(voter)) {
            return BAD;
        }
        Voter v = now.voters.get(voter);
        Text t = now.counting(2);
        return t == null ? v.wet : t.gives(Map.of('f', v.faith, 'w', v.wet));
    }

    int feed(int a, int b, int c) {
        if (tapeLength > 84) {
            return FULL;
        }
        for (int four : new int[] {a, b, c}) {
            for (byte one : java.nio.ByteBuffer.allocate(4).putInt(four).array()) {
                tape[tapeLength++] = one & 255;
            }
        }
        return tapeLength;
    }

    int trim(int n) {
        if (!in(n, 0, tapeLength)) {
            return BAD;
        }
        tapeLength = n;
        return n;
    }

    int text() {
        Text t = new Text(tape, tapeLength);
        tapeLength = 0;
        if (t.fault >= 0) {
            return -100 - t.fault;
        }
        if (now.texts.size() == 14) {
            return FULL;
        }
        now.texts.add(t);
        return now.texts.size() - 1;
    }

    int textTold(int text, int what) {
        if (!in(text, 0, now.texts.size() - 1) || !in(what, 0, 1)) {
            return BAD;
        }
        return what == 0 ? now.texts.get(text).key : now.texts.get(text).leaves;
    }

    int why(int key) {
        if (!in(key, 0, 2)) {
            return BAD;
        }
        return now.counting(key) == null ? NONE : now.texts.lastIndexOf(now.counting(key));
    }

    int sheet(int sheet, int sort, int n) {
        if (!in(sheet, 0, 3) || !in(sort, -1, 1) || (sort >= 0 && n > 24)) {
            return BAD;
        }
        if (sort >= 0 && n < 0) {
            return SIZE;
        }
        shorts[sheet] = sort == 0 ? new short[n] : null;
        floats[sheet] = sort == 1 ? new float[n] : null;
        return sort < 0 ? 0 : n;
    }

    int mark(int sheet, int place, int v) {
        if (!in(sheet, 0, 3)) {
            return BAD;
        }
        if (missing(sheet)) {
            return NOTHING;
        }
        if (!in(place, 0, size(sheet) - 1)) {
            return INDEX;
        }
        if (shorts[sheet] != null) {
            if (v == NONE) {
                return KIND;
            }
            shorts[sheet][place] = (short) v;
            return 1;
        }
        if (v != NONE && !in(v, -99999, 99999)) {
            return BAD;
        }
        floats[sheet][place] = v == NONE ? Float.NaN : v;
        return 1;
    }

    int pour(int sheet) {
        if (!in(sheet, 0, 3)) {
            return BAD;
        }
        if (missing(sheet)) {
            return NOTHING;
        }
        int changed = 0;
        for (int v = 0; v < now.voters.size(); v++) {
            Integer given = v < size(sheet) ? place(sheet, v) : null;
            int before = now.voters.get(v).wet;
            int after = given == null ? before : given < 0 ? 0 : given > 9 ? 9 : given;
            now.voters.get(v).wet = after;
            changed += before != after ? 1 : 0;
        }
        return changed;
    }

    int reads(int sheet) {
        if (!in(sheet, 0, 3)) {
            return BAD;
        }
        if (missing(sheet)) {
            return NOTHING;
        }
        for (int p = 0; p < size(sheet); p++) {
            if (place(sheet, p) != null && (p >= now.voters.size() || place(sheet, p) != now.has(p))) {
                return p;
            }
        }
        return NONE;
    }

    int copy(int from, int place, int to, int at, int many) {
        if (!in(from, 0, 3) || !in(to, 0, 3)) {
            return BAD;
        }
        if (missing(from) || missing(to)) {
            return NOTHING;
        }
        Object source = shorts[from] != null ? shorts[from] : floats[from];
        Object target = shorts[to] != null ? shorts[to] : floats[to];
        try {
            System.arraycopy(source, place, target, at, many);
            return many;
        } catch (ArrayStoreException e) {
            return KIND;
        } catch (IndexOutOfBoundsException e) {
            return INDEX;
        }
    }

    private static int thing(Object o) {
        return o == null ? 0 : o instanceof Voter ? 1 : o instanceof Integer ? 3 : 2;
    }

    int lay(int slot, int thing, int k) {
        if (!in(slot, 0, 4) || !in(thing, 0, 3) || (thing == 1 && !is(k)) || (thing == 2 && !in(k, 0, 3))) {
            return BAD;
        }
        Object before = slots[slot];
        if (thing == 2 && missing(k)) {
            return NOTHING;
        }
        if (thing == 0) {
            slots[slot] = null;
        } else if (thing == 1) {
            slots[slot] = now.voters.get(k).turned(now.voters.get(k).number());
        } else if (thing == 2) {
            slots[slot] = shorts[k] != null ? shorts[k].clone() : floats[k].clone();
        } else {
            slots[slot] = k;
        }
        return thing(before);
    }

    int ask(int slot, int kind) {
        if (!in(slot, 0, 4) || !in(kind, 0, 5)) {
            return BAD;
        }
        if (slots[slot] == null) {
            return NOTHING;
        }
        return slots[slot] instanceof Voter && ((Voter) slots[slot]).is(kind) ? ((Voter) slots[slot]).worth() : KIND;
    }

    int item(int slot, int place) {
        if (!in(slot, 0, 4)) {
            return BAD;
        }
        Object o = slots[slot];
        if (thing(o) != 2) {
            return o == null ? NOTHING : KIND;
        }
        int size = o instanceof short[] ? ((short[]) o).length : ((float[]) o).length;
        if (!in(place, 0, size - 1)) {
            return INDEX;
        }
        if (o instanceof short[]) {
            return ((short[]) o)[place];
        }
        float f = ((float[]) o)[place];
        return Float.isNaN(f) ? KIND : (int) f;
    }

    int rest(int slot, int n) {
        if (!in(slot, 0, 4)) {
            return BAD;
        }
        Object o = slots[slot];
        if (thing(o) != 3) {
            return o == null ? NOTHING : KIND;
        }
        return n == 0 ? NO : (Integer) o % n;
    }

    int tell(int v) {
        if (waiting.size() == 60) {
            return FULL;
        }
        waiting.add(v);
        return waiting.size();
    }

    int check(int n) {
        List<Integer> given = new ArrayList<>(waiting);
        waiting.clear();
        if (!in(n, 1, 30)) {
            return BAD;
        }
        if (image == null) {
            return NO;
        }
        List<Integer> due = new ArrayList<>();
        World w = image.copy();
        for (int i = 0; i < n && w.day < 9999; i++) {
            w.round();
            due.add(w.smoke);
            due.add(w.mostHas());
        }
        int same = 0;
        while (same < given.size() && same < due.size() && given.get(same).equals(due.get(same))) {
            same++;
        }
        return same == given.size() && same == due.size() ? 0 : 1 + same;
    }

    int keep() {
        image = now.copy();
        return now.voters.size();
    }

    int back() {
        if (image == null) {
            return NO;
        }
        now = image.copy();
        return now.voters.size();
    }

    int count(int what) {
        if (!in(what, 0, 9)) {
            return BAD;
        }
        int[] all = {now.voters.size(), now.day, now.rounds, now.resin, now.draft, now.run, now.texts.size(),
            waiting.size(), tapeLength, now.z};
        return all[what];
    }
}
