/** Promises 1 to 6 and 8: a new object, the input buffer, the setup text and its errors, names. */
public final class SetupTest {
    private static final String BASE = "class a;asker x credits 0;";

    public static void main(String[] args) {
        newObject();
        feed();
        truncate();
        parse();
        parseStartsAnew();
        parseForgetsEarlierTexts();
        faultyParseKeepsAll();
        setups();
        errors();
        rangeErrors();
        twiceErrors();
        nameErrors();
        tooMany();
        find();
        Check.end();
    }

    private static void newObject() {
        BallotBus bus = new BallotBus();
        int[] due = {1, 1, 0, 0, 3, 6, 10, 0, 3, 0, 0, 0, 0, 0, 0, 0};
        for (int what = 0; what < due.length; what++) {
            Check.is("P1 count(" + what + ")", bus.count(what), due[what]);
        }
        int[] asker = {0, 0, 1, 0, 1, 0, 0, 0, 0, 0};
        for (int what = 0; what < asker.length; what++) {
            Check.is("P1 asker(0, " + what + ")", bus.asker(0, what), asker[what]);
        }
        int[] kind = {0, 0, 0, 0, 0, -1};
        for (int what = 0; what < kind.length; what++) {
            Check.is("P1 kind(0, " + what + ")", bus.kind(0, what), kind[what]);
        }
        Check.is("P1 order", Check.order(bus), "0");
        Check.is("P1 ballot", Check.ballot(bus, 0), "0");
        Check.is("P1 progress", bus.progress(), -1);
        Check.is("P1 no output", bus.outputByte(0), -1);
        Check.is("P1 empty buffer", bus.truncate(1), false);
        Check.is("P1 empty buffer", bus.truncate(0), true);
        Check.is("P1 name of the class", Check.find(bus, false, "a"), 0);
        Check.is("P1 name of the asker", Check.find(bus, true, "a"), 0);
        Check.fails("P1 nothing saved", Check.STATE, bus::restoreState);
        Check.fails("P1 nothing to undo", Check.STATE, bus::undo);
    }

    private static void feed() {
        BallotBus bus = new BallotBus();
        // "class ab;asker y cre" "dits 7;..............": the order of all twenty bytes matters.
        Check.is("P2 feed", bus.feed(0x636c6173, 0x73206162, 0x3b61736b, 0x65722079, 0x20637265), 20);
        Check.is("P2 feed", bus.feed(0x64697473, 0x20373b20, 0x20202020, 0x20202020, 0x20202020), 40);
        Check.is("P2 parse", bus.parse(), 1);
        Check.is("P2 find", Check.find(bus, false, "ab"), 0);
        Check.is("P2 find", Check.find(bus, true, "y"), 0);
        Check.is("P2 credits", bus.asker(0, 0), 7);
        for (int length = 20; length <= 500; length += 20) {
            Check.is("P2 feed", bus.feed(0x20202020, 0x20202020, 0x20202020, 0x20202020, 0x20202020), length);
        }
        Check.is("P2 feed beyond 500", bus.feed(0, 0, 0, 0, 0), -1);
        Check.is("P2 500 bytes are there", bus.truncate(501), false);
        Check.is("P2 500 bytes are there", bus.truncate(481), true);
        Check.is("P2 feed at 481", bus.feed(0, 0, 0, 0, 0), -1);
        Check.is("P2 no change at 481", bus.truncate(482), false);
        Check.is("P2 truncate", bus.truncate(480), true);
        Check.is("P2 feed at 480", bus.feed(0x20202020, 0x20202020, 0x20202020, 0x20202020, 0x2020ff20), 500);
        bus.parse();
        Check.is("P2 the last bytes", bus.errorOffset(), 498);
        bus.feed(-1, -1, -1, -1, -1);
        bus.parse();
        Check.is("P2 a byte above 127", bus.errorOffset(), 0);
    }

    private static void truncate() {
        BallotBus bus = new BallotBus();
        bus.feed(0x61626364, 0, 0, 0, 0);
        Check.is("P3 negative", bus.truncate(-1), false);
        Check.is("P3 negative", bus.truncate(Integer.MIN_VALUE), false);
        Check.is("P3 too long", bus.truncate(21), false);
        Check.is("P3 too long", bus.truncate(Integer.MAX_VALUE), false);
        Check.is("P3 whole", bus.truncate(20), true);
        Check.is("P3 first bytes", bus.truncate(1), true);
        Check.is("P3 shorter now", bus.truncate(2), false);
        Check.is("P3 the first byte is left", bus.find(false), 0);
        bus.feed(0, 0, 0, 0, 0);
        Check.is("P3 to nothing", bus.truncate(0), true);
        Check.is("P3 to nothing", bus.truncate(1), false);
    }

    private static void parse() {
        BallotBus bus = new BallotBus();
        String text = "asker x credits 0;";
        for (int kinds = 1; kinds <= 5; kinds++) {
            text = text + "class " + (char) ('a' + kinds) + ";";
            Check.is("P4 classes", Check.parse(bus, text), kinds);
            Check.is("P4 count", bus.count(0), kinds);
            Check.is("P4 empties", bus.truncate(1), false);
        }
        Check.is("P4 no class", Check.parse(bus, "asker x credits 0;"), -1);
        Check.is("P4 empties", bus.truncate(1), false);
    }

    private static void parseStartsAnew() {
        BallotBus bus = Check.bus("class a;class b;asker x credits 99;turn 2;round 2;ask x a 1;ask x b 1;ask x b 1;");
        bus.cast(10);
        bus.run(4);
        bus.veto(0, 0);
        bus.cast(10);
        bus.setTally(2);
        bus.setManner(0, 3);
        bus.saveState();
        bus.printOrder();
        Check.parse(bus, "x");
        Check.is("P4 parse", Check.parse(bus, "class a;class c short;asker z credits 4;tally firsts;ask z c 3;"), 2);
        int[] due = {2, 1, 0, 1, 3, 6, 10, 0, 3, 1, 0, 1, 0, 0, 0, 0};
        for (int what = 0; what < due.length; what++) {
            Check.is("P4 count(" + what + ")", bus.count(what), due[what]);
        }
        int[] asker = {4, 0, 1, 0, 1, 0, 1, 0, 0, 0};
        for (int what = 0; what < asker.length; what++) {
            Check.is("P4 asker(0, " + what + ")", bus.asker(0, what), asker[what]);
        }
        int[] kind = {1, 1, 0, 1, 0, 0};
        for (int what = 0; what < kind.length; what++) {
            Check.is("P4 kind(1, " + what + ")", bus.kind(1, what), kind[what]);
        }
        Check.is("P4 manner", bus.kind(0, 0), 0);
        Check.is("P4 order", Check.order(bus), "01");
        Check.is("P4 ballot", Check.ballot(bus, 0), "01");
        Check.is("P4 error", bus.errorCode(), 0);
        Check.is("P4 error", bus.errorOffset(), -1);
        Check.is("P4 wait", bus.meanWait(1), 0.0);
        Check.is("P4 the output stays", Check.output(bus), "b > a*");
        Check.fails("P4 no answer", Check.ELEMENT, () -> bus.answer(0, 0));
        Check.fails("P4 nothing saved", Check.STATE, bus::restoreState);
        Check.fails("P4 nothing to undo", Check.STATE, bus::undo);
    }

    /** What texts, good and faulty ones, told does not show up in later ones. */
    private static void parseForgetsEarlierTexts() {
        String rich = "class a owing;class b rich;asker x credits 0 weight 5;asker y credits 7;tally pairs;turn 1;"
            + "round 1;veto 9;line 9;silence 1;ask x a 2;ask y b 3;";
        BallotBus bus = Check.bus(rich);
        bus.run(2);
        bus.veto(0, 0);
        bus.cast(10);
        for (int number = 0; number < 4; number++) {
            Check.is("P4 faulty", Check.parse(bus, rich + "class"), -1);
            Check.is("P4 good", Check.parse(bus, "class p;asker q credits 0;asker r credits 1;"), 1);
            int[] due = {1, 2, 0, 0, 3, 6, 10, 0, 3, 0, 0, 0, 0, 0, 0, 0};
            for (int what = 0; what < due.length; what++) {
                Check.is("P4 anew count(" + what + ")", bus.count(what), due[what]);
            }
            for (int asker = 0; asker < 2; asker++) {
                int[] first = {asker, 0, 1, 0, 1, 0, 0, 0, 0, 0};
                for (int what = 0; what < first.length; what++) {
                    Check.is("P4 anew asker(" + asker + ", " + what + ")", bus.asker(asker, what), first[what]);
                }
            }
            Check.is("P4 anew manner", bus.kind(0, 0), 0);
            Check.is("P4 anew progress", bus.progress(), -1);
            Check.is("P4 anew names", Check.find(bus, false, "a") + Check.find(bus, true, "x"), -2);
            bus.ask(0, 0, 3);
            bus.run(4 + number);
            Check.is("P4 anew wait", bus.meanWait(0), 2.0);
            Check.is("P4 good", Check.parse(bus, rich), 2);
            Check.is("P4 rich", bus.count(3) * 100 + bus.count(9) * 10 + bus.asker(0, 2), 225);
            bus.run(3);
            bus.veto(0, 1);
        }
    }

    private static void faultyParseKeepsAll() {
        BallotBus bus = Check.bus("class a;class b;asker x credits 99 weight 2;turn 2;round 2;ask x a 1;ask x b 2;");
        bus.run(2);
        bus.saveState();
        bus.cast(10);
        bus.printOrder();
        Check.is("P4 faulty", Check.parse(bus, "class q;asker r credits 5;turn 9;tally pairs;ask r q 7;x"), -1);
        int[] due = {2, 1, 2, 0, 2, 2, 10, 0, 3, 0, 1, 2, 0, 0, 1, 2};
        for (int what = 0; what < due.length; what++) {
            Check.is("P4 kept count(" + what + ")", bus.count(what), due[what]);
        }
        Check.is("P4 kept name", Check.find(bus, false, "b"), 1);
        Check.is("P4 kept name", Check.find(bus, true, "x"), 0);
        Check.is("P4 kept ballot", Check.ballot(bus, 0), "10");
        Check.is("P4 kept progress", bus.progress(), 1);
        Check.is("P4 kept weight", bus.asker(0, 2), 2);
        Check.is("P4 kept output", Check.output(bus), "a > b");
        Check.is("P4 kept changes", bus.undo(), 1);
        Check.is("P4 kept state", bus.restoreState(), 2);
    }

    private static void setups() {
        BallotBus bus = Check.bus("\n asker  abcdef\ncredits0weight9;class a;class b short;class c rich;"
            + "class d owing;class abcdef;\nask abcdef d 20;ask abcdef a1;tally firsts;turn 020;round 50;veto 99;"
            + "line 99;silence 9;asker a credits 999;asker class credits 000;".replace("asker class", "asker e"));
        int[] due = {5, 3, 0, 1, 20, 50, 99, 99, 9, 2, 0, 2, 0, 0, 0, 0};
        for (int what = 0; what < due.length; what++) {
            Check.is("P4 count(" + what + ")", bus.count(what), due[what]);
        }
        for (int kind = 0; kind < 5; kind++) {
            Check.is("P4 manner of " + kind, bus.kind(kind, 0), kind % 4);
        }
        Check.is("P4 weight", bus.asker(0, 2), 9);
        Check.is("P4 no weight", bus.asker(1, 2), 1);
        Check.is("P4 weight 1", Check.bus("class a;asker x credits 0 weight 1;").asker(0, 2), 1);
        Check.is("P4 credits", bus.asker(1, 0), 999);
        Check.is("P4 request", bus.request(0, 1), 3);
        Check.is("P4 request", bus.request(0, 2), 20);
        Check.is("P4 request", bus.request(1, 2), 1);
        Check.bus(BASE + "turn 1;round 1;veto 0;line 0;silence 1;tally points;");
        Check.is("P4 tally", Check.bus("tally pairs;" + BASE).count(3), 2);
        // Words of the grammar's left sides are not quoted in it.
        Check.bus("class text;class name;class number;asker text credits 1;");
        StringBuilder full = new StringBuilder(BASE);
        while (full.length() < 500) {
            full.append(' ');
        }
        Check.bus(full.toString());
    }

    private static void error(String text, int code, int offset) {
        BallotBus bus = new BallotBus();
        Check.is("P4 parse of \"" + text + "\"", Check.parse(bus, text), -1);
        Check.is("P5 code of \"" + text + "\"", bus.errorCode(), code);
        Check.is("P6 offset of \"" + text + "\"", bus.errorOffset(), offset);
        Check.parse(bus, BASE);
        Check.is("P5 code behind \"" + text + "\"", bus.errorCode(), 0);
        Check.is("P6 offset behind \"" + text + "\"", bus.errorOffset(), -1);
    }

    private static void errors() {
        Check.is("P5 no parse", new BallotBus().errorCode(), 0);
        Check.is("P6 no parse", new BallotBus().errorOffset(), -1);
        error("", 5, 0);
        error(" \n ", 5, 3);
        error("class a;\n", 5, 9);
        error("asker x credits 1;", 5, 18);
        error(";", 1, 0);
        error("class a;;", 1, 8);
        error("x", 1, 0);
        error("short", 1, 0);
        error("7", 1, 0);
        error("class", 1, 5);
        error("class ", 1, 6);
        error("class a", 1, 7);
        error("class a  ", 1, 9);
        error("class a short", 1, 13);
        error("class a short rich;", 1, 14);
        error("class a weight;", 1, 8);
        error("class 5;", 1, 6);
        error("class ;", 1, 6);
        error("classa;", 1, 0);
        error("Class a;", 1, 0);
        error("glass a;", 1, 0);
        error("clasp a;", 1, 0);
        error("clas a;", 1, 0);
        error("class A;", 1, 6);
        error("class\ta;", 1, 5);
        error("class a\r;", 1, 7);
        error("class a\0", 1, 7);
        error("class a:", 1, 7);
        error("class \u00e4;", 1, 6);
        error("class a5;", 1, 7);
        error("class a;class b,", 1, 15);
        error("asker", 1, 5);
        error("asker x", 1, 7);
        error("asker x 5", 1, 8);
        error("asker x credits", 1, 15);
        error("asker x credits;", 1, 15);
        error("asker x credits -1", 1, 16);
        error("asker x credits 1000", 1, 16);
        error("asker x credits 0000;", 1, 16);
        error("asker x credits 5 7", 1, 18);
        error("asker x credits 5 weight", 1, 24);
        error("asker x credits 5 weight;", 1, 24);
        error("asker x credits 5 weight 1234", 1, 25);
        error("asker x weight 5", 1, 8);
        error("tally", 1, 5);
        error("tally owing;", 1, 6);
        error("tally points firsts", 1, 13);
        error("turn", 1, 4);
        error("turn x", 1, 5);
        error("turn 5000", 1, 5);
        error("turn 5 5", 1, 7);
        error("veto;", 1, 4);
        error(BASE + "ask", 1, 29);
        error(BASE + "ask x", 1, 31);
        error(BASE + "ask x a", 1, 33);
        error(BASE + "ask x a;", 1, 33);
        error(BASE + "ask x a 0001", 1, 34);
        error(BASE + "ask x a 5", 1, 35);
        error(BASE + "ask x a 5 5", 1, 36);
        error(BASE + "ask 5", 1, 30);
        error(BASE + "ask x 5", 1, 32);
        // The first error from the left counts.
        error("class a;class a;x", 3, 14);
        error("turn 0;x", 2, 5);
    }

    private static void rangeErrors() {
        error("asker x credits 5 weight 0", 2, 25);
        error("asker x credits 5 weight 10;", 2, 25);
        error("turn 0", 2, 5);
        error("turn 21", 2, 5);
        error("round 0", 2, 6);
        error("round 51", 2, 6);
        error("veto 100", 2, 5);
        error("line 100", 2, 5);
        error("silence 0", 2, 8);
        error("silence 10", 2, 8);
        error(BASE + "ask x a 0", 2, 34);
        error(BASE + "ask x a 21", 2, 34);
    }

    private static void twiceErrors() {
        String[] once = {"tally points;", "turn 3;", "round 3;", "veto 3;", "line 3;", "silence 3;"};
        for (String statement : once) {
            error(statement + statement, 3, statement.length());
            String all = String.join("", once);
            error(all + "\n" + statement, 3, all.length() + 1);
        }
        error("class a;class b;class a", 3, 22);
        error("asker x credits 0;asker x", 3, 24);
        error("ask x", 3, 4);
        error("class x;ask x", 3, 12);
        error(BASE + "ask a", 3, 30);
        error(BASE + "ask y z", 3, 30);
        error(BASE + "ask x x", 3, 32);
        error(BASE + "ask x b 99", 3, 32);
    }

    private static void nameErrors() {
        String[] quoted = {"class", "short", "rich", "owing", "asker", "credits", "weight", "tally", "points", "firsts",
            "pairs", "turn", "round", "veto", "line", "silence", "ask"};
        for (String word : quoted) {
            error("class " + word, 1, 6);
            error("asker " + word, 1, 6);
            error(BASE + "ask " + word, 1, 30);
            error(BASE + "ask x " + word, 1, 32);
        }
        error("class abcdefg;", 1, 6);
        error("asker abcdefg credits", 1, 6);
        error(BASE + "ask abcdefg", 1, 30);
        error(BASE + "ask x abcdefg", 1, 32);
        error("class abcdefghijklmnopqrstuvwxyz", 1, 6);
    }

    private static void tooMany() {
        error("class a;class b;class c;class d;class e;class", 4, 40);
        error("class a;class b;class c;class d;class e;class a;", 4, 40);
        StringBuilder askers = new StringBuilder();
        for (char name = 'a'; name < 'i'; name++) {
            askers.append("asker ").append(name).append(" credits 0;");
        }
        error(askers + "asker", 4, askers.length());
        Check.is("P4 eight askers", Check.bus(askers + "class a;").count(1), 8);
        StringBuilder requests = new StringBuilder(BASE);
        for (int number = 0; number < 40; number++) {
            requests.append("ask x a1;");
        }
        error(requests + " ask", 4, requests.length() + 1);
        Check.is("P4 forty requests", Check.bus(requests.toString()).count(9), 40);
    }

    private static void find() {
        BallotBus bus = Check.bus("class a;class abcdef;asker x credits 0;asker a credits 0;");
        Check.is("P8 class", Check.find(bus, false, "a"), 0);
        Check.is("P8 class", Check.find(bus, false, "abcdef"), 1);
        Check.is("P8 asker", Check.find(bus, true, "a"), 1);
        Check.is("P8 asker", Check.find(bus, true, "x"), 0);
        String[] strange = {"", "b", "x", "abcde", "abcdefg", "bcdef", "a ", " a", "a\n", "\0a", "a\0", "A", "a;", "7"};
        for (String text : strange) {
            Check.is("P8 class \"" + text + "\"", Check.find(bus, false, text), -1);
            Check.is("P8 empties", bus.truncate(1), false);
        }
        Check.is("P8 no asker", Check.find(bus, true, "abcdef"), -1);
        bus.feed(0x61000000, 0, 0, 0, 0);
        Check.is("P8 the whole content", bus.find(false), -1);
        Check.is("P8 empties", bus.truncate(1), false);
    }
}
