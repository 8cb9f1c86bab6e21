import java.util.Arrays;
import java.util.List;

/** The boundary cases of section 1 and of promises 1 to 6 and 8: the input buffer, the setup text, names. */
public final class TextEdgesTest {
    private static final String BASE = "class a;asker x credits 0;";
    private static final String[] QUOTED = {"class", "short", "rich", "owing", "asker", "credits", "weight", "tally",
        "points", "firsts", "pairs", "turn", "round", "veto", "line", "silence", "ask"};
    private static final String[] ONCE = {"tally pairs;", "turn 4;", "round 5;", "veto 6;", "line 7;", "silence 8;"};

    public static void main(String[] args) {
        newObjectIsLikeItsText();
        bufferIsFull();
        refusedFeedKeepsTheBytes();
        placeOfEachByte();
        truncateAtBothEnds();
        bytesBetweenStatements();
        bytesBehindALetter();
        bytesBehindADigit();
        tokensNeedNoBlanks();
        lengthsOfNames();
        quotedWords();
        nearlyQuotedWords();
        digitsOfNumbers();
        rangesOfNumbers();
        defaultsOfSettings();
        onceEach();
        mostClasses();
        mostAskers();
        mostRequests();
        textEndsTooEarly();
        nothingIsTold();
        sameNames();
        namesToldBefore();
        smallestCode();
        firstErrorFromTheLeft();
        latestError();
        parseEmptiesTheBuffer();
        parseWithAnErrorKeepsAll();
        findTakesTheWholeContent();
        findEmptiesTheBuffer();
        Check.end();
    }

    /** Parses a faulty text on a new bus. */
    private static void error(String promise, String text, int code, int offset) {
        BallotBus bus = new BallotBus();
        Check.is(promise + " parse of \"" + text + "\"", Check.parse(bus, text), -1);
        Check.is(promise + " code of \"" + text + "\"", bus.errorCode(), code);
        Check.is(promise + " offset of \"" + text + "\"", bus.errorOffset(), offset);
    }

    private static String blanks(int number) {
        return " ".repeat(number);
    }

    private static void feedBlanks(BallotBus bus, int times) {
        for (int number = 0; number < times; number++) {
            bus.feed(0x20202020, 0x20202020, 0x20202020, 0x20202020, 0x20202020);
        }
    }

    // ---- promises 1 to 3: a new object, feed, truncate

    private static void newObjectIsLikeItsText() {
        BallotBus told = Check.bus("class a;asker a credits 0;");
        Check.is("P1 as if the text had been parsed", Check.all(new BallotBus()), Check.all(told));
        BallotBus bus = new BallotBus();
        Check.is("P1 the buffer is empty", bus.truncate(1), false);
        Check.is("P1 an empty text is parsed", bus.parse(), -1);
        Check.is("P1 an empty text is parsed", bus.errorCode() * 10 + bus.errorOffset(), 50);
    }

    private static void bufferIsFull() {
        int[] lengths = {0, 20, 479, 480, 481, 499, 500};
        for (int length : lengths) {
            BallotBus bus = new BallotBus();
            feedBlanks(bus, 25);
            bus.truncate(length);
            boolean fits = length + 20 <= 500;
            Check.is("P2 feed at " + length, bus.feed(0, 0, 0, 0, 0), fits ? length + 20 : -1);
            int due = fits ? length + 20 : length;
            Check.is("P2 not longer than " + due, bus.truncate(due + 1), false);
            Check.is("P2 as long as " + due, bus.truncate(due), true);
        }
    }

    private static void refusedFeedKeepsTheBytes() {
        BallotBus bus = new BallotBus();
        Check.put(bus, blanks(474) + BASE);
        Check.is("P2 full", bus.feed(-1, -1, -1, -1, -1), -1);
        Check.is("P2 the text is as it was", bus.parse(), 1);
        Check.put(bus, blanks(455) + BASE);
        Check.is("P2 nothing is appended at 481", bus.feed(-1, -1, -1, -1, -1), -1);
        Check.is("P2 the text is as it was", bus.parse(), 1);
    }

    private static void placeOfEachByte() {
        for (int place = 0; place < 20; place++) {
            int[] words = new int[5];
            Arrays.fill(words, 0x20202020);
            int shift = 24 - 8 * (place % 4);
            words[place / 4] = words[place / 4] & ~(255 << shift) | 0xf3 << shift;
            BallotBus bus = new BallotBus();
            bus.feed(0x0a0a0a0a, 0x0a0a0a0a, 0x0a0a0a0a, 0x0a0a0a0a, 0x0a0a0a0a);
            bus.feed(words[0], words[1], words[2], words[3], words[4]);
            bus.parse();
            Check.is("P2 the byte " + place + " of a feed", bus.errorOffset(), 20 + place);
        }
    }

    private static void truncateAtBothEnds() {
        BallotBus bus = new BallotBus();
        Check.is("P3 an empty buffer", bus.truncate(-1), false);
        Check.is("P3 an empty buffer", bus.truncate(1), false);
        Check.is("P3 an empty buffer", bus.truncate(0), true);
        Check.put(bus, "abc");
        Check.is("P3 greater than the length", bus.truncate(4), false);
        Check.is("P3 negative", bus.truncate(-1), false);
        Check.is("P3 no change", bus.truncate(3), true);
        Check.is("P3 one byte less", bus.truncate(2), true);
        Check.is("P3 it is shorter", bus.truncate(3), false);
        Check.is("P3 the first bytes are left", bus.parse(), -1);
        Check.put(bus, BASE + "x");
        Check.is("P3 greater than the length", bus.truncate(BASE.length() + 2), false);
        Check.is("P3 the last byte goes", bus.truncate(BASE.length()), true);
        Check.is("P3 the others stay", bus.parse(), 1);
        feedBlanks(bus, 25);
        Check.is("P3 a full buffer", bus.truncate(501), false);
        Check.is("P3 a full buffer", bus.truncate(500), true);
        Check.is("P3 to nothing", bus.truncate(0), true);
        Check.is("P3 from the first byte on again", bus.feed(0x61000000, 0, 0, 0, 0), 20);
        bus.truncate(1);
        Check.is("P3 from the first byte on again", bus.find(false), 0);
    }

    // ---- section 1: bytes and tokens

    private static boolean isBlank(int value) {
        return value == 32 || value == 10;
    }

    private static void bytesBetweenStatements() {
        for (int value = 0; value < 256; value++) {
            String text = BASE + (char) value;
            if (isBlank(value)) {
                Check.bus(text);
            } else {
                error("P6 byte " + value + ":", text, 1, BASE.length());
            }
        }
    }

    private static void bytesBehindALetter() {
        for (int value = 0; value < 256; value++) {
            String text = "class b" + (char) value + ";asker x credits 0;";
            if (value >= 97 && value <= 122) {
                Check.is("P4 a letter " + value, Check.find(Check.bus(text), false, "b" + (char) value), 0);
            } else if (isBlank(value)) {
                Check.is("P4 a blank " + value, Check.find(Check.bus(text), false, "b"), 0);
            } else {
                error("P6 byte " + value + ":", text, 1, value == ';' ? 8 : 7);
            }
        }
    }

    private static void bytesBehindADigit() {
        for (int value = 0; value < 256; value++) {
            String text = "turn 1" + (char) value + ";" + BASE;
            if (value >= 48 && value <= 57) {
                Check.is("P4 a digit " + value, Check.bus(text).count(4), 10 + value - 48);
            } else if (isBlank(value)) {
                Check.is("P4 a blank " + value, Check.bus(text).count(4), 1);
            } else {
                error("P6 byte " + value + ":", text, 1, value == ';' ? 7 : 6);
            }
        }
    }

    private static void tokensNeedNoBlanks() {
        Check.is("P4 a word and a number touch", Check.bus("turn7;" + BASE).count(4), 7);
        Check.is("P4 a number and a word touch", Check.bus("class a;asker x credits 4weight6;").asker(0, 2), 6);
        Check.is("P4 blanks ahead of a semicolon", Check.bus("turn 7 \n ; \n" + BASE).count(4), 7);
        error("P6 two words that touch are one:", "classa;", 1, 0);
        error("P6 a blank cuts a word:", "cl ass a;", 1, 0);
        error("P6 a blank cuts a number:", "turn 1 0;", 1, 7);
        error("P6 a line feed cuts a number:", "turn 1\n0;", 1, 7);
    }

    private static void lengthsOfNames() {
        String letters = "zyxwvutsrq";
        for (int length = 1; length <= 10; length++) {
            String name = letters.substring(0, length);
            String good = "class " + name + ";asker " + name + " credits 0;ask " + name + " " + name + " 1;";
            if (length <= 6) {
                BallotBus bus = Check.bus(good);
                Check.is("P8 class of " + length, Check.find(bus, false, name), 0);
                Check.is("P8 asker of " + length, Check.find(bus, true, name), 0);
            } else {
                error("P6 name of " + length + ":", good, 1, 6);
                error("P6 name of " + length + ":", "asker " + name + " credits 0;", 1, 6);
                error("P6 name of " + length + ":", BASE + "ask " + name + " a 1;", 1, 30);
                error("P6 name of " + length + ":", BASE + "ask x " + name + " 1;", 1, 32);
            }
        }
    }

    private static void quotedWords() {
        for (String word : QUOTED) {
            error("P6 quoted:", "class " + word + ";", 1, 6);
            error("P6 quoted:", "asker " + word + " credits 0;", 1, 6);
            error("P6 quoted:", BASE + "ask " + word + " a 1;", 1, 30);
            error("P6 quoted:", BASE + "ask x " + word + " 1;", 1, 32);
        }
    }

    /** A word that has a letter less or more than a quoted one is a name. */
    private static void nearlyQuotedWords() {
        List<String> quoted = Arrays.asList(QUOTED);
        for (String word : QUOTED) {
            String[] names = {word.substring(0, word.length() - 1), word.substring(1), word + "s", "z" + word};
            for (String name : names) {
                if (name.length() <= 6 && !quoted.contains(name)) {
                    BallotBus bus = Check.bus("class " + name + ";asker " + name + " credits 0;");
                    Check.is("P8 " + name, Check.find(bus, false, name) + Check.find(bus, true, name), 0);
                    error("P6 no statement:", name + " 5;", 1, 0);
                }
            }
        }
    }

    private static void digitsOfNumbers() {
        Check.is("P4 one digit", Check.bus("turn 9;" + BASE).count(4), 9);
        Check.is("P4 two digits", Check.bus("turn 09;" + BASE).count(4), 9);
        Check.is("P4 three digits", Check.bus("turn 009;" + BASE).count(4), 9);
        error("P6 four digits:", "turn 0009;", 1, 5);
        error("P6 four digits, out of range as well:", "turn 1000;", 1, 5);
        error("P6 many digits:", "turn 4294967299;", 1, 5);
        error("P6 no digit:", "turn ;", 1, 5);
    }

    private static void rangesOfNumbers() {
        range("turn ", ";" + BASE, 4, 1, 20);
        range("round ", ";" + BASE, 5, 1, 50);
        range("veto ", ";" + BASE, 6, 0, 99);
        range("line ", ";" + BASE, 7, 0, 99);
        range("silence ", ";" + BASE, 8, 1, 9);
        range("class a;asker x credits ", ";", 20, 0, 999);
        range("class a;asker x credits 3 weight ", ";", 22, 1, 9);
        range(BASE + "ask x a ", ";", 30, 1, 20);
    }

    private static void range(String before, String behind, int what, int least, int most) {
        int[] good = {least, most};
        for (int value : good) {
            BallotBus bus = Check.bus(before + value + behind);
            int got = what < 20 ? bus.count(what) : what < 30 ? bus.asker(0, what - 20) : bus.request(0, 2);
            Check.is("P4 " + before + value, got, value);
        }
        if (least > 0) {
            error("P5 too small:", before + (least - 1) + behind, 2, before.length());
        }
        // A number of four digits is too long, and that is the smaller code.
        error("P5 too large:", before + (most + 1) + behind, most == 999 ? 1 : 2, before.length());
        if (most < 999) {
            error("P5 too large:", before + "999" + behind, 2, before.length());
        }
    }

    private static void defaultsOfSettings() {
        int[] first = {0, 3, 6, 10, 0, 3};
        int[] told = {2, 4, 5, 6, 7, 8};
        for (int setting = 0; setting < 6; setting++) {
            BallotBus bus = Check.bus(ONCE[setting] + BASE);
            for (int what = 0; what < 6; what++) {
                Check.is("P4 " + ONCE[setting] + " count(" + (3 + what) + ")", bus.count(3 + what),
                    what == setting ? told[what] : first[what]);
            }
        }
    }

    private static void onceEach() {
        for (String one : ONCE) {
            error("P5 twice:", one + one, 3, one.length());
            for (String other : ONCE) {
                if (!one.equals(other)) {
                    error("P5 twice:", one + other + "\n" + one, 3, one.length() + other.length() + 1);
                    error("P5 twice:", other + BASE + one + one, 3, other.length() + BASE.length() + one.length());
                }
            }
            String word = one.substring(0, one.indexOf(' '));
            error("P5 the word alone:", one + word, 3, one.length());
            error("P5 with another fault behind it:", one + word + " 1000 5", 3, one.length());
        }
        Check.bus(String.join("", ONCE) + BASE);
    }

    // ---- section 1: how many there are

    private static void mostClasses() {
        StringBuilder text = new StringBuilder("asker x credits 0;");
        String[] manners = {"", " short", " rich", " owing", ""};
        for (int kind = 0; kind < 5; kind++) {
            text.append("class ").append((char) ('e' - kind)).append(manners[kind]).append(';');
            BallotBus bus = Check.bus(text.toString());
            Check.is("P4 classes", bus.count(0), kind + 1);
            for (int each = 0; each <= kind; each++) {
                Check.is("P4 in the order of the text", Check.find(bus, false, "" + (char) ('e' - each)), each);
                Check.is("P4 manner", bus.kind(each, 0), each % 4);
            }
        }
        error("P5 a 6th class:", text + "class f;", 4, text.length());
        error("P5 a 6th class with a name that is there:", text + "class e;", 4, text.length());
        error("P5 a 6th class without a name:", text + "class", 4, text.length());
    }

    private static void mostAskers() {
        StringBuilder text = new StringBuilder("class a;");
        for (int asker = 0; asker < 8; asker++) {
            text.append("asker ").append((char) ('h' - asker)).append(" credits ").append(asker).append(" weight ")
                .append(9 - asker).append(';');
            BallotBus bus = Check.bus(text.toString());
            Check.is("P4 askers", bus.count(1), asker + 1);
            for (int each = 0; each <= asker; each++) {
                Check.is("P4 in the order of the text", Check.find(bus, true, "" + (char) ('h' - each)), each);
                Check.is("P4 credits and weight", bus.asker(each, 0) * 10 + bus.asker(each, 2), each * 10 + 9 - each);
            }
        }
        error("P5 a 9th asker:", text + "asker z credits 0;", 4, text.length());
        error("P5 a 9th asker with a name that is there:", text + "asker a credits 0;", 4, text.length());
        error("P5 a 9th asker without a name:", text + "asker", 4, text.length());
    }

    private static void mostRequests() {
        StringBuilder text = new StringBuilder(BASE);
        for (int number = 0; number < 40; number++) {
            text.append("ask x a").append(1 + number % 20).append(';');
        }
        BallotBus bus = Check.bus(text.toString());
        Check.is("P4 forty wait", bus.count(9), 40);
        Check.is("P4 forty were asked", bus.count(11), 40);
        for (int serial = 0; serial < 40; serial++) {
            Check.is("P4 length of " + serial, bus.request(serial, 2), 1 + serial % 20);
        }
        error("P5 a 41st request:", text + "ask x a 1;", 4, text.length());
        error("P5 a 41st request of no asker:", text + "ask q", 4, text.length());
        error("P5 a 41st request without names:", text + "ask", 4, text.length());
    }

    // ---- section 1: errors

    private static void textEndsTooEarly() {
        String[] parts = {"class", "class b", "class b short", "asker", "asker y", "asker y credits",
            "asker y credits 5", "asker y credits 5 weight", "asker y credits 5 weight 2", "tally", "tally pairs",
            "turn", "turn 3", "round", "round 3", "veto", "veto 3", "line", "line 3", "silence", "silence 3", "ask",
            "ask x", "ask x a", "ask x a 3"};
        for (String part : parts) {
            String text = BASE + part;
            error("P6 more is required:", text, 1, text.length());
            error("P6 more is required:", text + " \n", 1, text.length() + 2);
            Check.is("P4 not with a semicolon alone", Check.parse(new BallotBus(), text + ";") > 0,
                part.matches("class b.*|.*(\\d|pairs)"));
        }
        String full = blanks(500 - BASE.length()) + BASE;
        error("P6 a full buffer, more is required:", full.substring(0, 499) + " ", 1, 500);
    }

    private static void nothingIsTold() {
        error("P5 no class and no asker:", "", 5, 0);
        error("P5 no class and no asker:", blanks(500), 5, 500);
        error("P5 no class and no asker:", "turn 3;", 5, 7);
        error("P5 no class:", "asker x credits 0;", 5, 18);
        error("P5 no class:", "asker x credits 0;\n\n", 5, 20);
        error("P5 no asker:", "class a;", 5, 8);
        error("P5 no asker:", " class a; ", 5, 10);
    }

    private static void sameNames() {
        error("P5 a class twice:", "class a;class b;class a;", 3, 22);
        error("P5 a class twice:", "class abcdef;class abcdef", 3, 19);
        error("P5 an asker twice:", "asker x credits 0;asker y credits 0;asker x", 3, 42);
        Check.bus("class a;class ab;class b;asker a credits 0;asker ab credits 0;asker b credits 0;");
        Check.bus("class abcdef;class abcdeg;class bbcdef;asker abcdef credits 0;asker abcdee credits 0;");
    }

    private static void namesToldBefore() {
        error("P5 no asker yet:", "class a;ask x a 1;asker x credits 0;", 3, 12);
        error("P5 no class yet:", "asker x credits 0;ask x a 1;class a;", 3, 24);
        error("P5 this class, not yet that one:", BASE + "ask x b 1;class b;", 3, 32);
        error("P5 a class is no asker:", BASE + "ask a a 1;", 3, 30);
        error("P5 an asker is no class:", BASE + "ask x x 1;", 3, 32);
        error("P5 neither, the asker comes first:", BASE + "ask y b 1;", 3, 30);
        error("P5 a part of a name:", "class ab;asker xy credits 0;ask x ab 1;", 3, 32);
        error("P5 a part of a name:", "class ab;asker xy credits 0;ask xy a 1;", 3, 35);
    }

    private static void smallestCode() {
        error("P5 too long, and no asker has it:", BASE + "ask abcdefg a 1;", 1, 30);
        error("P5 too long, and out of range:", "class a;asker x credits 1000;", 1, 24);
        error("P5 more is required, and there is no asker:", "class a", 1, 7);
        error("P5 more is required, and there is no class:", "turn", 1, 4);
        error("P5 cannot stand there, and would be a second one:", "turn 3 turn 3;", 1, 7);
        error("P5 cannot stand there, and would be a 6th class:", "class a;class b;class c;class d;class e class f;",
            1, 40);
    }

    private static void firstErrorFromTheLeft() {
        error("P5 a number, then a byte:", "turn 0;?", 2, 5);
        error("P5 a byte, then a number:", "?turn 0;", 1, 0);
        error("P5 a name, then a number:", "class a;class a;turn 0;", 3, 14);
        error("P5 a number, then a name:", "class a;turn 0;class a;", 2, 13);
        error("P5 a number, then no asker:", "class a;turn 21;", 2, 13);
        error("P5 an asker, then a class:", BASE + "ask y b 0;", 3, 30);
        error("P5 a class, then a number:", BASE + "ask x b 0;", 3, 32);
    }

    private static void latestError() {
        BallotBus bus = new BallotBus();
        Check.is("P5 no call of parse", bus.errorCode(), 0);
        Check.is("P6 no call of parse", bus.errorOffset(), -1);
        Check.parse(bus, "class a;turn 0;");
        Check.is("P5 the first one", bus.errorCode(), 2);
        Check.is("P6 the first one", bus.errorOffset(), 13);
        Check.find(bus, true, "?");
        Check.put(bus, "??");
        Check.is("P5 not by other calls", bus.errorCode() * 100 + bus.errorOffset(), 213);
        bus.parse();
        Check.is("P5 the second one", bus.errorCode(), 1);
        Check.is("P6 the second one", bus.errorOffset(), 0);
        Check.parse(bus, BASE);
        Check.is("P5 no error", bus.errorCode(), 0);
        Check.is("P6 no error", bus.errorOffset(), -1);
    }

    // ---- promises 4 and 8: parse and find

    private static void parseEmptiesTheBuffer() {
        BallotBus bus = new BallotBus();
        Check.is("P4 good", Check.parse(bus, BASE), 1);
        Check.is("P4 empty", bus.truncate(1), false);
        Check.is("P4 faulty", Check.parse(bus, BASE + "?"), -1);
        Check.is("P4 empty", bus.truncate(1), false);
        Check.is("P4 nothing of the text is left", bus.parse(), -1);
        Check.is("P4 nothing of the text is left", bus.errorCode() * 10 + bus.errorOffset(), 50);
    }

    private static void parseWithAnErrorKeepsAll() {
        String[] faulty = {"", "?", "class q;asker q credits 1", "class q;class r;asker q credits 9;ask q r 3;turn 0;",
            "class q;", "tally pairs;turn 1;round 1;veto 1;line 1;silence 1;asker z credits 1 weight 9;"};
        for (String text : faulty) {
            BallotBus bus = Check.bus("class a;class b rich;asker x credits 30;asker y credits 4 weight 2;turn 2;"
                + "round 4;ask x a 2;ask y b 3;ask x b 1;");
            bus.run(2);
            bus.saveState();
            bus.cast(10);
            bus.veto(0, 1);
            bus.printOrder();
            String before = Check.all(bus) + bus.count(15) + Check.output(bus);
            Check.is("P4 faulty", Check.parse(bus, text), -1);
            Check.is("P4 all is kept", Check.all(bus) + bus.count(15) + Check.output(bus), before);
            Check.is("P4 the names are kept", Check.find(bus, false, "b") * 10 + Check.find(bus, true, "y"), 11);
            Check.is("P4 the changes are kept", bus.undo(), 2);
            Check.is("P4 the saved state is kept", bus.restoreState(), 2);
        }
    }

    private static void findTakesTheWholeContent() {
        BallotBus bus = Check.bus("class a;class abcdef;asker x credits 0;asker abcde credits 0;");
        Check.is("P8 a class", Check.find(bus, false, "abcdef"), 1);
        Check.is("P8 an asker", Check.find(bus, true, "abcde"), 1);
        Check.is("P8 no class", Check.find(bus, false, "x"), -1);
        Check.is("P8 no asker", Check.find(bus, true, "a"), -1);
        String[] strange = {"", "aa", "abcdefa", "aabcdef", " a", "a ", "a\n", "\na", "a;", "a\0", "\0a", "abc def",
            "A", "\u00e1", "a" + blanks(499), "aaaaaaaaaabcdef"};
        for (String content : strange) {
            Check.is("P8 \"" + content + "\"", Check.find(bus, false, content), -1);
            Check.is("P8 \"" + content + "\"", Check.find(bus, true, content), -1);
        }
    }

    private static void findEmptiesTheBuffer() {
        BallotBus bus = new BallotBus();
        String[] contents = {"a", "b", "", "a ", blanks(500)};
        for (String content : contents) {
            for (int asker = 0; asker < 2; asker++) {
                Check.find(bus, asker == 1, content);
                Check.is("P8 empty behind \"" + content + "\"", bus.truncate(1), false);
            }
        }
        Check.parse(bus, "?");
        Check.find(bus, true, "a");
        Check.is("P8 the error stays", bus.errorCode(), 1);
    }
}
