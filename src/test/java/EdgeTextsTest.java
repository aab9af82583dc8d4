/** Promises 24 to 28 at their edges, and part 4 of the terms: the tape, texts, faults, what laws give. */
public final class EdgeTextsTest {
    private static final int BAD = Edges.BAD, FULL = Edges.FULL, NONE = Edges.NONE, MIN = Edges.MIN, MAX = Edges.MAX;
    private static final int BLANKS = 0x20202020;
    private static final String[] KEYS = {"sway", "fee", "fine"};
    private static final String[] NAMES = {"frp", "rw", "fw"};
    /** A fault that is none. */
    private static final int RIGHT = -1;

    public static void main(String[] args) {
        feed();
        feedBytes();
        trim();
        textNumbers();
        textUsesUp();
        keys();
        names();
        numbers();
        blanks();
        everyByte();
        grammar();
        ends();
        depths();
        longest();
        values();
        valuesThatWrap();
        textTold();
        why();
        Edges.end();
    }

    private static void due(String what, int got, int want) {
        Edges.due(what, got, want);
    }

    private static void fault(String text, int place) {
        SmokeVotes x = new SmokeVotes();
        due("\"" + text + "\"", Edges.tellText(x, text), place == RIGHT ? 0 : -100 - place);
        due("TEXTS behind \"" + text + "\"", x.count(6), place == RIGHT ? 1 : 0);
        due("THE TAPE behind \"" + text + "\"", x.count(8), 0);
    }

    private static void gives(String expression, int value) {
        SmokeVotes x = new SmokeVotes();
        due("told \"" + expression + "\"", Edges.tellText(x, "fee " + expression), 0);
        due("\"" + expression + "\"", x.fee(), value);
    }

    private static SmokeVotes withTape(int bytes) {
        SmokeVotes x = new SmokeVotes();
        for (int have = 0; have < bytes; have += 12) {
            x.feed(BLANKS, BLANKS, BLANKS);
        }
        x.trim(bytes);
        return x;
    }

    // ---- 24, 25

    private static void feed() {
        Edges.sentence("24: twelve bytes come: how many it has", () -> {
            SmokeVotes x = new SmokeVotes();
            for (int i = 1; i <= 8; i++) {
                due("feed " + i, x.feed(MIN, 0, MAX), 12 * i);
                due("count", x.count(8), 12 * i);
            }
            due("the ninth", x.feed(0, 0, 0), FULL);
        });
        Edges.sentence("24: FULL: it would have more than 96", () -> {
            for (int bytes = 0; bytes <= 96; bytes++) {
                SmokeVotes x = withTape(bytes);
                due("with " + bytes, x.feed(0, 0, 0), bytes <= 84 ? bytes + 12 : FULL);
                due("count", x.count(8), bytes <= 84 ? bytes + 12 : bytes);
            }
        });
        Edges.sentence("24: FULL changes nothing",
                () -> Edges.refused("feed", Edges::full, x -> x.feed(1, 2, 3), FULL));
        Edges.sentence("24: FULL with 85 bytes changes nothing", () -> Edges.refused("feed", () -> {
            SmokeVotes x = new SmokeVotes();
            Edges.feedAll(x, "fee " + "1+".repeat(40) + "7");
            return x;
        }, x -> x.feed(MAX, MAX, MAX), FULL));
        Edges.sentence("24: behind the bytes that it has", () -> {
            SmokeVotes x = new SmokeVotes();
            Edges.feedAll(x, "fee 12");
            x.feed(0x33342A31, 0x20202020, 0x20202020);
            due("1234*1", x.text(), 0);
            due("gives", x.fee(), 1234);
        });
    }

    private static void feedBytes() {
        Edges.sentence("24: the highest byte of each number first", () -> {
            SmokeVotes x = new SmokeVotes();
            x.feed(0x66656520, 0x39383736, 0x2D352B72);
            due("fee 9876-5+r", x.text(), 0);
            due("gives", x.fee(), 9871);
        });
        Edges.sentence("24: a byte is 0 .. 255", () -> {
            SmokeVotes x = new SmokeVotes();
            x.feed(-1, -1, -1);
            due("255", x.text(), -100);
            x.feed(0x66656520, 0x31202020, 0x202020FF);
            due("255 as the last", x.text(), -111);
            x.feed(0x66656520, 0x31202020, 0x80202020);
            due("128", x.text(), -108);
            x.feed(0x66656520, 0x3120207F, BLANKS);
            due("127", x.text(), -107);
            x.feed(0, 0, 0);
            due("0", x.text(), -100);
        });
    }

    private static void trim() {
        Edges.sentence("25: its first n bytes, 0 to all", () -> {
            for (int bytes = 0; bytes <= 96; bytes += 12) {
                for (int n = 0; n <= bytes; n++) {
                    SmokeVotes x = withTape(bytes);
                    due("trim " + n + " of " + bytes, x.trim(n), n);
                    due("count", x.count(8), n);
                }
            }
        });
        Edges.sentence("25: BAD: more than it has, below 0", () -> {
            for (int bytes : new int[] {0, 1, 12, 95, 96}) {
                for (int n : new int[] {bytes + 1, -1, MIN, MAX, 256, 65536, BAD, NONE}) {
                    SmokeVotes x = withTape(bytes);
                    due("trim " + n + " of " + bytes, x.trim(n), BAD);
                    due("count", x.count(8), bytes);
                }
            }
            Edges.refused("trim above", Edges::rich, x -> x.trim(14), BAD);
            Edges.refused("trim below", Edges::rich, x -> x.trim(-1), BAD);
            Edges.refused("trim above 96", Edges::full, x -> x.trim(97), BAD);
        });
        Edges.sentence("25: to all that it has: nothing changes",
                () -> Edges.refused("trim", Edges::rich, x -> x.trim(13), 13));
        Edges.sentence("25: what was cut off does not come back", () -> {
            SmokeVotes x = new SmokeVotes();
            Edges.feedAll(x, "fee 1234");
            x.trim(5);
            due("no more than 5", x.trim(8), BAD);
            x.text();
            due("1", x.fee(), 1);
        });
    }

    // ---- 26

    private static void textNumbers() {
        Edges.sentence("26: TEXTS, 14 at most, numbered from 0", () -> {
            SmokeVotes x = new SmokeVotes();
            for (int i = 0; i < 14; i++) {
                due("text " + i, Edges.tellText(x, KEYS[i % 3] + " 1"), i);
                due("count", x.count(6), i + 1);
            }
            due("text 14", Edges.tellText(x, "fee 2"), FULL);
            due("count", x.count(6), 14);
            due("the last one counts", x.fee(), 1);
        });
        Edges.sentence("26: a TEXT with a FAULT takes no number", () -> {
            SmokeVotes x = new SmokeVotes();
            due("a fault", Edges.tellText(x, "fee"), -103);
            due("the next one", Edges.tellText(x, "fee 1"), 0);
        });
        Edges.sentence("26: the FAULT stands ahead of FULL", () -> {
            SmokeVotes x = Edges.full();
            due("a fault", Edges.tellText(x, "fee 1 1"), -106);
            due("an empty tape", x.text(), -100);
            due("none", Edges.tellText(x, "fee 1"), FULL);
        });
        Edges.sentence("26: one TEXT leaves nothing to the next one", () -> {
            SmokeVotes x = new SmokeVotes();
            due("a fault behind a sign", Edges.tellText(x, "sway f + p * !"), -114);
            due("another key", Edges.tellText(x, "fee r"), 0);
            due("one leaf", x.textTold(0, 1), 1);
            due("it gives", x.fee(), 0);
            due("a fault at a word", Edges.tellText(x, "fee 1 1"), -106);
            due("a word at the first byte", Edges.tellText(x, "fine 5"), 1);
        });
    }

    private static void textUsesUp() {
        Edges.sentence("26: an act that reads THE TAPE uses it up: a TEXT", () -> {
            SmokeVotes x = Edges.rich();
            due("text", x.text(), 2);
            due("count", x.count(8), 0);
            due("nothing is left", x.text(), -100);
        });
        Edges.sentence("26: a FAULT uses it up and changes nothing else", () -> Edges.likeTwin("text", () -> {
            SmokeVotes x = Edges.rich();
            Edges.feedAll(x, "fee 1 2");
            return x;
        }, SmokeVotes::text, -106, x -> x.trim(0)));
        Edges.sentence("26: FULL uses it up and changes nothing else",
                () -> Edges.likeTwin("text", Edges::full, SmokeVotes::text, FULL, x -> x.trim(0)));
        Edges.sentence("26: an empty TAPE: the end comes at 0", () -> {
            due("new", new SmokeVotes().text(), -100);
            due("trimmed", withTape(0).text(), -100);
        });
    }

    // ---- part 4: words

    private static void keys() {
        Edges.sentence("KEY: sway | fee | fine", () -> {
            for (String key : KEYS) {
                fault(key + " 1", RIGHT);
                fault(key, key.length());
                fault(key.substring(0, key.length() - 1) + " 1", 0);
                fault(key.substring(1) + " 1", 0);
                fault(key + "s 1", 0);
                fault("s" + key + " 1", 0);
                fault(key.toUpperCase() + " 1", 0);
                for (int at = 0; at < key.length(); at++) {
                    fault(key.substring(0, at) + "z" + key.substring(at + 1) + " 1", 0);
                    fault(key.substring(0, at) + " " + key.substring(at) + " 1", at == 0 ? RIGHT : 0);
                }
            }
        });
        Edges.sentence("KEY: none, or two of them", () -> {
            fault("1", 0);
            fault("(fee 1)", 0);
            fault("fee fee", 4);
            fault("fee sway 1", 4);
            fault("fee 1 fee 1", 6);
            fault("! fee 1", 0);
        });
    }

    private static void names() {
        Edges.sentence("NAMES: of each KEY its own, each one letter", () -> {
            for (int key = 0; key < 3; key++) {
                String head = KEYS[key] + " ";
                for (char letter = 'a'; letter <= 'z'; letter++) {
                    boolean own = NAMES[key].indexOf(letter) >= 0;
                    fault(head + letter, own ? RIGHT : head.length());
                    fault(head + "1+" + letter, own ? RIGHT : head.length() + 2);
                    fault(head + letter + letter, head.length());
                    fault(head + letter + NAMES[key].charAt(0), head.length());
                    fault(head + Character.toUpperCase(letter), head.length());
                }
            }
        });
    }

    private static void numbers() {
        Edges.sentence("NUMBER: 1 to 4 digits", () -> {
            fault("fee 1", RIGHT);
            fault("fee 12", RIGHT);
            fault("fee 123", RIGHT);
            fault("fee 1234", RIGHT);
            fault("fee 12345", 4);
            fault("fee 123456", 4);
            fault("fee 0000", RIGHT);
            fault("fee 00000", 4);
            fault("fee 1+99999", 6);
            fault("fee 1+9999", RIGHT);
            fault("fee (12345", 5);
            fault("fee 12345)", 4);
            fault("fee 4294967297", 4);
            gives("9999", 9999);
            gives("0", 0);
            gives("0000", 0);
            gives("0010", 10);
        });
        Edges.sentence("NUMBER: of more than 4 digits where none can stand", () -> {
            fault("12345", 0);
            fault("fee 1 12345", 6);
            fault("fee12345", 3);
        });
    }

    private static void blanks() {
        Edges.sentence("Between words and signs, and at the ends, there may be blanks", () -> {
            fault("fee 1+2", RIGHT);
            fault("   fee   1   +   2   ", RIGHT);
            fault("fee(1)", RIGHT);
            fault("fee ( 1 )", RIGHT);
            fault("fee!1", RIGHT);
            fault("fee ! ! 1", RIGHT);
            fault("fee 1<2", RIGHT);
            fault("fee 1 < 2", RIGHT);
        });
        Edges.sentence("No blanks within words", () -> {
            fault("f ee 1", 0);
            fault("fee 1 2", 6);
            fault("sway f r", 7);
        });
        Edges.sentence("A word right behind another one needs a blank", () -> {
            fault("fee1", 3);
            fault("sway1", 4);
            fault("fine1", 4);
            fault("fee 1r", 5);
            fault("fee r1", 5);
            fault("fee r 1", 6);
            fault("fee 1+1r", 7);
            fault("fee (1)1", 7);
            fault("fee (1)r", 7);
            fault("fee1+", 3);
            fault("feer", 0);
        });
        Edges.sentence("A number is no sign, though it is a sign's byte", () -> {
            for (char sign : "!()|&<=>+-*/ ".toCharArray()) {
                int b = sign;
                fault("fee r" + b + " 1", 5);
                fault("fee r " + b + " 1", 6);
                fault("fee r" + b, 5);
                fault("fee " + b, RIGHT);
                fault("fee " + b + " 1", b < 100 ? 7 : 8);
                fault("fee" + b + " 1", 3);
            }
        });
        Edges.sentence("Other bytes that look like blanks are signs", () -> {
            fault("fee\t1", 3);
            fault("fee 1\n", 5);
            fault("\rfee 1", 0);
            fault("fee 1" + (char) 0, 5);
            fault("fee" + (char) 160 + "1", 3);
        });
    }

    /** The place of the fault of "fee 1" and one byte more: signs that join lack what follows. */
    private static int behindNumber(int b) {
        if (b == ' ' || b >= '0' && b <= '9') {
            return RIGHT;
        }
        return "|&<=>+-*/".indexOf(b) >= 0 ? 6 : 5;
    }

    private static int asPiece(int b) {
        if (b >= '0' && b <= '9' || b == 'r' || b == 'w') {
            return RIGHT;
        }
        return " !(".indexOf(b) >= 0 ? 5 : 4;
    }

    private static void everyByte() {
        Edges.sentence("each byte behind a NUMBER", () -> {
            for (int b = 0; b < 256; b++) {
                fault("fee 1" + (char) b, behindNumber(b));
            }
        });
        Edges.sentence("each byte where a PIECE is due", () -> {
            for (int b = 0; b < 256; b++) {
                fault("fee " + (char) b, asPiece(b));
            }
        });
        Edges.sentence("each byte ahead of a KEY", () -> {
            for (int b = 0; b < 256; b++) {
                fault((char) b + "fee 1", b == ' ' ? RIGHT : 0);
            }
        });
        Edges.sentence("each byte right behind a KEY", () -> {
            for (int b = 0; b < 256; b++) {
                boolean letter = b >= 'a' && b <= 'z';
                boolean on = b == ' ' || b == '!';
                fault("fee" + (char) b + "1", on ? RIGHT : b == '(' ? 5 : letter ? 0 : 3);
            }
        });
        Edges.sentence("each byte between two PIECES", () -> {
            for (int b = 0; b < 256; b++) {
                boolean joins = "|&<=>+-*/".indexOf(b) >= 0;
                fault("fee (1)" + (char) b + "(2)", joins ? RIGHT : b == ' ' ? 8 : 7);
            }
        });
    }

    private static void grammar() {
        Edges.sentence("TEST: SUM [ (< | = | >) SUM ]: one sign at most", () -> {
            for (char one : "<=>".toCharArray()) {
                for (char two : "<=>".toCharArray()) {
                    fault("fee 1" + one + "2", RIGHT);
                    fault("fee 1" + one + "2" + two + "3", 7);
                    fault("fee (1" + one + "2)" + two + "3", RIGHT);
                    fault("fee 1" + one + "(2" + two + "3)", RIGHT);
                    fault("fee 1" + one + two + "2", 6);
                    fault("fee 1" + one + "2&3" + two + "4", RIGHT);
                    fault("fee 1" + one + "2|3" + two + "4", RIGHT);
                    fault("fee 1" + one + "2+3" + two + "4", 9);
                }
            }
        });
        Edges.sentence("no sign begins an E, but ! and (", () -> {
            for (char sign : "|&<=>+-*/)".toCharArray()) {
                fault("fee " + sign + "1", 4);
                fault("fee (" + sign + "1)", 5);
                fault("fee !" + sign + "1", 5);
                fault("fee 1+" + sign + "1", 6);
            }
        });
        Edges.sentence("( E ): what opens is closed", () -> {
            fault("fee ()", 5);
            fault("fee (1", 6);
            fault("fee (1 ", 7);
            fault("fee 1)", 5);
            fault("fee (1))", 7);
            fault("fee )1(", 4);
            fault("fee ((1)", 8);
            fault("fee (1)(2)", 7);
            fault("fee (1+)", 7);
        });
        Edges.sentence("! PIECE", () -> {
            fault("fee !1", RIGHT);
            fault("fee !r", RIGHT);
            fault("fee !(1)", RIGHT);
            fault("fee !!1", RIGHT);
            fault("fee 1!", 5);
            fault("fee 1!1", 5);
            fault("fee !", 5);
            fault("fee !)", 5);
            fault("fee 1*!2", RIGHT);
            fault("fee !1*2", RIGHT);
        });
    }

    private static void ends() {
        Edges.sentence("the end (the place behind the last byte), if it comes too soon", () -> {
            fault("", 0);
            fault(" ", 1);
            fault("fee", 3);
            fault("fee ", 4);
            fault("fee   ", 6);
            fault("fee 1+", 6);
            fault("fee 1+ ", 7);
            fault("fee !", 5);
            fault("fee (", 5);
            fault("fee (1", 6);
            fault("fee 1<", 6);
            fault("fee 1&", 6);
            fault("fee 1|", 6);
            fault("fee 1*", 6);
        });
        Edges.sentence("the end at 96, the last byte at 95", () -> {
            fault(" ".repeat(96), 96);
            fault("fee " + "1+".repeat(46), 96);
            fault("fee " + "1+".repeat(45) + "1)", 95);
            fault(" ".repeat(95) + "1", 95);
            fault(" ".repeat(93) + "fee", 96);
            fault(" ".repeat(91) + "fee 1", RIGHT);
            fault(" ".repeat(91) + "fee1 ", 94);
        });
    }

    private static void depths() {
        Edges.sentence("the ninth ( that would be open within others", () -> {
            for (int deep = 1; deep <= 20; deep++) {
                fault("fee " + "(".repeat(deep) + "1" + ")".repeat(deep), deep <= 8 ? RIGHT : 12);
            }
            fault("fee " + "(1+".repeat(8) + "1" + ")".repeat(8), RIGHT);
            fault("fee " + "(1+".repeat(9) + "1" + ")".repeat(9), 28);
            fault("fee " + "(".repeat(8), 12);
            fault("fee " + "(".repeat(9), 12);
            fault("fee " + "( ".repeat(9), 20);
        });
        Edges.sentence("( that is closed is open no more", () -> {
            fault("fee " + "(1)+".repeat(22) + "(1)", RIGHT);
            fault("fee " + "(".repeat(8) + "1" + ")".repeat(8) + "+" + "(".repeat(8) + "1" + ")".repeat(8), RIGHT);
            fault("fee " + "(".repeat(8) + "1" + ")".repeat(8) + "+" + "(".repeat(9) + "1" + ")".repeat(9), 30);
            fault("fee " + "(".repeat(7) + "(1)+(1)*(1)" + ")".repeat(7), RIGHT);
            fault("fee " + "(".repeat(7) + "(1)+((1))" + ")".repeat(7), 16);
        });
        Edges.sentence("the ninth ! likewise", () -> {
            for (int deep = 1; deep <= 20; deep++) {
                fault("fee " + "!".repeat(deep) + "1", deep <= 8 ? RIGHT : 12);
            }
            fault("fee " + "! ".repeat(9) + "1", 20);
            fault("fee " + "!".repeat(8), 12);
            fault("fee " + "!".repeat(9), 12);
        });
        Edges.sentence("! that has its PIECE is open no more", () -> {
            fault("fee " + "!1+".repeat(30) + "!1", RIGHT);
            fault("fee " + "!".repeat(8) + "1+" + "!".repeat(8) + "1", RIGHT);
            fault("fee " + "!".repeat(8) + "1+" + "!".repeat(9) + "1", 22);
            fault("fee !(" + "!".repeat(7) + "1+" + "!".repeat(7) + "1)", RIGHT);
            fault("fee !(" + "!".repeat(7) + "1+" + "!".repeat(8) + "1)", 22);
            fault("fee !(1)+" + "!".repeat(8) + "1", RIGHT);
            fault("fee !(1+" + "!".repeat(8) + "1)", 15);
        });
        Edges.sentence("( and !, each by itself", () -> {
            fault("fee " + "!(".repeat(8) + "1" + ")".repeat(8), RIGHT);
            fault("fee " + "(!".repeat(8) + "1" + ")".repeat(8), RIGHT);
            fault("fee " + "!(".repeat(9) + "1" + ")".repeat(9), 20);
            fault("fee " + "(!".repeat(9) + "1" + ")".repeat(9), 20);
            fault("fee " + "!(".repeat(8) + "(1)" + ")".repeat(8), 20);
            fault("fee " + "!".repeat(8) + "(".repeat(8) + "1" + ")".repeat(8), RIGHT);
            fault("fee " + "(".repeat(8) + "!".repeat(8) + "1" + ")".repeat(8), RIGHT);
            fault("fee " + "!".repeat(8) + "(".repeat(9) + "1" + ")".repeat(9), 20);
            fault("fee " + "(".repeat(8) + "!".repeat(9) + "1" + ")".repeat(8), 20);
        });
    }

    private static void longest() {
        Edges.sentence("THE TAPE, 96 bytes: the longest TEXTS", () -> {
            fault("fee " + "1+".repeat(45) + "11", RIGHT);
            gives("1+".repeat(45) + "11", 56);
            gives("!".repeat(8) + "(".repeat(8) + "9999" + ")".repeat(8) + "+1", 2);
            gives("(0-".repeat(8) + "9999" + ")".repeat(8) + " ".repeat(20), 9999);
            gives("1-(".repeat(8) + "1+2*3<8&1|0" + ")".repeat(8), 1);
            gives("1|1&1<1+1*(".repeat(7) + "1" + ")".repeat(7), 1);
            gives("0|1&1<1+1*(".repeat(7) + "1" + ")".repeat(7), 1);
        });
    }

    // ---- part 4: what laws give

    private static void values() {
        Edges.sentence("tests give 1 or 0", () -> {
            int[][] pairs = {{1, 2}, {2, 2}, {3, 2}};
            for (int[] p : pairs) {
                gives(p[0] + "<" + p[1], p[0] < p[1] ? 1 : 0);
                gives(p[0] + "=" + p[1], p[0] == p[1] ? 1 : 0);
                gives(p[0] + ">" + p[1], p[0] > p[1] ? 1 : 0);
            }
            gives("0-1<0", 1);
            gives("0-1>0", 0);
        });
        Edges.sentence("& | ! give 1 or 0; what is not 0 is true", () -> {
            for (int a : new int[] {0, 1, 2, 9999}) {
                gives("!" + a, a == 0 ? 1 : 0);
                gives("!(0-" + a + ")", a == 0 ? 1 : 0);
                for (int b : new int[] {0, 1, 2, 4}) {
                    gives(a + "&" + b, a != 0 && b != 0 ? 1 : 0);
                    gives(a + "|" + b, a != 0 || b != 0 ? 1 : 0);
                }
            }
            gives("(0-1)&(0-1)", 1);
            gives("0|(0-1)", 1);
        });
        Edges.sentence("the loosest first: | & test +- */", () -> {
            gives("1|0&0", 1);
            gives("0&0|1", 1);
            gives("2&2=2", 1);
            gives("2=2&2", 1);
            gives("1<1+1", 1);
            gives("1+1<1", 0);
            gives("1+2*3", 7);
            gives("2*3+1", 7);
            gives("8-6/2", 5);
            gives("!1+1", 1);
            gives("!0*5", 5);
        });
        Edges.sentence("those of one kind from the left", () -> {
            gives("9-3-2", 4);
            gives("9-3+2", 8);
            gives("90/9/2", 5);
            gives("9/2*2", 8);
            gives("2*9/4", 4);
            gives("7/2*0/0", 0);
        });
    }

    private static void valuesThatWrap() {
        Edges.sentence("Ints wrap", () -> {
            gives("1024*1024*2048", MIN);
            gives("1024*1024*2048-1", MAX);
            gives("1024*1024*2048*2", 0);
            gives("0-1024*1024*2048", MIN);
            gives("1024*1024*2047+1024*1024", MIN);
            gives("1024*1024*2048-1<0", 0);
            gives("1024*1024*2048<0", 1);
        });
        Edges.sentence("/ is 0 by 0", () -> {
            gives("7/0", 0);
            gives("0/0", 0);
            gives("(0-7)/0", 0);
            gives("7/(3-3)", 0);
            gives("7/r", 0);
            gives("1+7/0*5", 1);
        });
        Edges.sentence("/ cuts towards 0", () -> {
            gives("7/2", 3);
            gives("(0-7)/2", -3);
            gives("7/(0-2)", -3);
            gives("(0-7)/(0-2)", 3);
            gives("1/9999", 0);
            gives("(0-1)/9999", 0);
        });
        Edges.sentence("the least int by -1 wraps", () -> gives("1024*1024*2048/(0-1)", MIN));
        Edges.sentence("both sides are worked out", () -> {
            gives("0&1/0", 0);
            gives("1|1/0", 1);
        });
    }

    // ---- 27, 28

    private static void textTold() {
        Edges.sentence("27: what 0 KEY", () -> {
            for (int key = 0; key < 3; key++) {
                SmokeVotes x = new SmokeVotes();
                Edges.tellText(x, KEYS[key] + " 1");
                due(KEYS[key], x.textTold(0, 0), key);
            }
        });
        Edges.sentence("27: what 1 how many NUMBERS and NAMES", () -> {
            String[] texts = {"sway 1", "sway f", "sway !(f)", "sway f+1", "sway f+f*f", "sway 1234",
                "fee " + "1+".repeat(45) + "1"};
            int[] leaves = {1, 1, 1, 2, 3, 1, 46};
            SmokeVotes x = new SmokeVotes();
            for (int i = 0; i < texts.length; i++) {
                due(texts[i], Edges.tellText(x, texts[i]), i);
                due(texts[i], x.textTold(i, 1), leaves[i]);
            }
        });
        Edges.sentence("27: BAD: text", () -> {
            due("the last of two", Edges.rich().textTold(1, 0), 2);
            Edges.refused("the first that is not there", Edges::rich, x -> x.textTold(2, 0), BAD);
            due("the last of 14", Edges.full().textTold(13, 0), 1);
            Edges.outside("textTold", 0, 13, (x, v) -> x.textTold(v, 0), BAD);
            due("none is there", new SmokeVotes().textTold(0, 0), BAD);
        });
        Edges.sentence("27: BAD: what 0 .. 1",
                () -> Edges.outside("textTold what", 0, 1, (x, v) -> x.textTold(0, v), BAD));
        Edges.sentence("27: nothing changes",
                () -> Edges.refused("textTold", Edges::rich, x -> x.textTold(0, 1), 3));
    }

    private static void why() {
        Edges.sentence("28: of a KEY that TEXT counts that was told last", () -> {
            SmokeVotes x = new SmokeVotes();
            for (int i = 0; i < 14; i++) {
                Edges.tellText(x, KEYS[i % 3] + " " + i);
                for (int key = 0; key < 3; key++) {
                    int last = i - (i - key + 3) % 3;
                    due(KEYS[key] + " behind " + i, x.why(key), last < 0 ? NONE : last);
                }
            }
            due("fee", x.fee(), 13);
        });
        Edges.sentence("28: NONE", () -> {
            SmokeVotes x = Edges.rich();
            due("no fee", x.why(1), NONE);
            Edges.refused("why", Edges::rich, y -> y.why(1), NONE);
        });
        Edges.sentence("28: BAD: key 0 .. 2", () -> Edges.outside("why", 0, 2, SmokeVotes::why, BAD));
        Edges.sentence("28: neither a FAULT nor FULL takes a TEXT's place", () -> {
            SmokeVotes x = Edges.full();
            int was = x.why(1);
            Edges.tellText(x, "fee");
            due("a fault", x.why(1), was);
            Edges.tellText(x, "fee 1");
            due("full", x.why(1), was);
        });
    }
}
