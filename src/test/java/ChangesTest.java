import java.util.function.Consumer;

/** Promises 32 to 40 and 48 to 51: changes, output and state. */
public final class ChangesTest {
    public static void main(String[] args) {
        run();
        phases();
        ask();
        askLimits();
        cancel();
        cast();
        veto();
        payBack();
        setTally();
        setManner();
        undoEach();
        undoLimits();
        output();
        state();
        stateInPlaceOfAnother();
        Check.end();
    }

    private static void run() {
        BallotBus bus = Check.bus("class a;asker x credits 0;ask x a 1;ask x a 2;ask x a 1;");
        Check.is("P32 two", bus.run(3), 2);
        Check.is("P32 the time", bus.count(2), 3);
        Check.is("P32 one", bus.run(500), 1);
        Check.is("P32 none", bus.run(1), 0);
        Check.is("P32 the time", bus.count(2), 504);
        int[] bad = {0, -1, 501, Integer.MIN_VALUE, Integer.MAX_VALUE};
        for (int ticks : bad) {
            Check.fails("P32 ticks " + ticks, Check.ARGUMENT, () -> bus.run(ticks));
        }
        Check.is("P32 no change", bus.count(2) * 10 + bus.count(15), 5043);
    }

    private static void phases() {
        // The turn of y ends in tick 2 with a cast, so y counts in tick 3, and x, silent in its turn, does not.
        BallotBus bus = Check.bus("class a;class b;asker x credits 0;asker y credits 0 weight 2;turn 1;round 3;"
            + "silence 1;ask x a 9;ask x b 1;ask x a 1;");
        bus.run(2);
        bus.cast(10);
        bus.run(2);
        Check.is("P32 the vote of y counts in tick 3", Check.order(bus), "10");
        Check.is("P32 one that is in progress goes on", bus.progress(), 0);
        bus.run(6);
        // Answered in tick 8; in tick 9 class b comes first, whose request of length 1 is answered at once.
        Check.is("P32 then class b", bus.answer(0, 0), 1);
        Check.is("P32 in tick 9", bus.answer(0, 4), 9);
        Check.is("P32 the rest of the length is credit", bus.asker(0, 0), 10);
        BallotBus early = Check.bus("class a;class b;asker x credits 0;turn 2;round 4;silence 1;");
        early.run(1);
        early.cast(10);
        early.run(4);
        // The turn from 2 to 4 has no cast, but it ends in tick 4 behind the voting.
        Check.is("P32 first the voting, then the turn", Check.order(early), "10");
        Check.is("P32 x is silent behind the voting", early.votes(), 0);
        BallotBus start = Check.bus("class a;asker x credits 0;asker y credits 0;turn 2;");
        start.run(1);
        Check.is("P32 no turn passes on at 0", start.count(12), 0);
        start.run(2);
        Check.is("P32 the turn passes on in tick 2", start.count(12), 1);
    }

    private static void ask() {
        BallotBus bus = Check.bus("class a;class b;asker x credits 0;asker y credits 0;ask x a 5;");
        bus.run(2);
        Check.is("P33 serial", bus.ask(1, 1, 20), 1);
        Check.is("P33 serial", bus.ask(0, 0, 1), 2);
        int[] due = {1, 1, 20, 20, 2};
        for (int what = 0; what < due.length; what++) {
            Check.is("P33 request(1, " + what + ")", bus.request(1, what), due[what]);
        }
        Check.is("P33 cancelled ones keep their numbers", bus.cancel(2), 1);
        Check.is("P33 serial", bus.ask(0, 0, 1), 3);
        int[] bad = {-1, 2, Integer.MIN_VALUE, Integer.MAX_VALUE};
        for (int value : bad) {
            Check.fails("P33 asker " + value, Check.INDEX, () -> bus.ask(value, 0, 1));
            Check.fails("P33 class " + value, Check.INDEX, () -> bus.ask(0, value, 1));
            Check.fails("P33 both", Check.INDEX, () -> bus.ask(value, 0, 0));
        }
        int[] lengths = {0, -1, 21, Integer.MIN_VALUE, Integer.MAX_VALUE};
        for (int length : lengths) {
            Check.fails("P33 length " + length, Check.ARGUMENT, () -> bus.ask(0, 0, length));
        }
        Check.is("P33 no change", bus.count(9) * 100 + bus.count(11) * 10 + bus.count(15), 245);
    }

    private static void askLimits() {
        BallotBus bus = Check.bus("class a;class b;asker x credits 0;ask x a 2;");
        for (int serial = 1; serial < 40; serial++) {
            Check.is("P33 serial", bus.ask(0, serial % 2, 1), serial);
        }
        Check.fails("P33 a 41st", Check.STATE, () -> bus.ask(0, 0, 1));
        Check.fails("P33 length first", Check.ARGUMENT, () -> bus.ask(0, 0, 0));
        Check.fails("P33 class first", Check.INDEX, () -> bus.ask(0, 2, 0));
        bus.run(1);
        Check.fails("P33 one is in progress", Check.STATE, () -> bus.ask(0, 0, 1));
        bus.run(1);
        Check.is("P33 one is answered", bus.ask(0, 1, 3), 40);
        bus.cancel(39);
        Check.is("P33 one is cancelled", bus.ask(0, 1, 4), 41);
        Check.is("P33 the last one of the line", bus.line(1, 20), 41);
        Check.fails("P33 a 41st", Check.STATE, () -> bus.ask(0, 0, 1));
    }

    private static void cancel() {
        BallotBus bus = Check.bus("class a;asker x credits 0;ask x a 5;ask x a 6;ask x a 7;ask x a 8;");
        bus.run(1);
        Check.is("P34 length", bus.cancel(2), 7);
        Check.is("P34 line", Check.line(bus, 0), "1 3");
        Check.is("P34 those behind stay as they are", bus.request(3, 2), 8);
        Check.is("P34 none is answered", bus.count(10), 0);
        Check.is("P34 all were asked", bus.count(11), 4);
        Check.fails("P34 in progress", Check.STATE, () -> bus.cancel(0));
        int[] bad = {-1, 2, 4, Integer.MIN_VALUE, Integer.MAX_VALUE};
        for (int serial : bad) {
            Check.fails("P34 request " + serial, Check.ELEMENT, () -> bus.cancel(serial));
        }
        Check.is("P34 no change", bus.count(15), 2);
        bus.run(4);
        Check.fails("P34 answered", Check.ELEMENT, () -> bus.cancel(0));
        Check.is("P34 the first one", bus.cancel(1), 6);
        Check.is("P34 the last one", bus.cancel(3), 8);
        Check.is("P34 none waits", bus.count(9), 0);
    }

    private static void cast() {
        BallotBus bus = Check.bus("class a;class b;class c;asker x credits 0;asker y credits 0;turn 2;");
        Check.is("P35 asker", bus.cast(12), 0);
        Check.is("P35 again", bus.cast(201), 0);
        Check.is("P35 ballot", Check.ballot(bus, 0), "201");
        bus.run(3);
        Check.is("P35 asker", bus.cast(102), 1);
        Check.is("P35 ballot", Check.ballot(bus, 1), "102");
        Check.is("P35 ballot", Check.ballot(bus, 0), "201");
        Check.is("P35 the order stays", Check.order(bus), "021");
        int[] bad = {-1, -12, 0, 1, 2, 11, 13, 22, 100, 112, 123, 211, 1012, 2010, 3012, 1000012, 10, 21021,
            Integer.MIN_VALUE, Integer.MAX_VALUE};
        for (int code : bad) {
            Check.fails("P35 code " + code, Check.ARGUMENT, () -> bus.cast(code));
        }
        Check.is("P35 no change", bus.count(15), 4);
        Check.is("P35 no change", Check.ballot(bus, 1), "102");
        castEndsSilence();
        BallotBus one = new BallotBus();
        Check.is("P35 one class", one.cast(0), 0);
        Check.fails("P35 one class", Check.ARGUMENT, () -> one.cast(1));
        Check.fails("P35 one class", Check.ARGUMENT, () -> one.cast(10));
        BallotBus five = Check.bus("class a;class b;class c;class d;class e;asker x credits 0;");
        Check.is("P35 five classes", five.cast(1234), 0);
        Check.is("P35 five classes", five.cast(43210), 0);
        Check.fails("P35 five classes", Check.ARGUMENT, () -> five.cast(3210));
        Check.fails("P35 five classes", Check.ARGUMENT, () -> five.cast(143210));
    }

    private static void castEndsSilence() {
        BallotBus bus = Check.bus("class a;class b;asker x credits 0;asker y credits 0;turn 2;silence 2;");
        bus.run(9);
        String before = Check.all(bus);
        Check.is("P35 x and y are silent", bus.asker(0, 3) * 10 + bus.asker(1, 3), 22);
        Check.fails("P35 no ballot", Check.ARGUMENT, () -> bus.cast(11));
        Check.is("P35 no change", Check.all(bus), before);
        bus.saveState();
        bus.cast(10);
        Check.is("P35 the cast ends the silence of x", bus.asker(0, 3) * 10 + bus.asker(1, 3), 2);
        Check.is("P35 x counts", bus.asker(0, 4) * 10 + bus.asker(1, 4), 10);
        bus.undo();
        Check.is("P40 the silence is back", Check.all(bus), before);
        bus.cast(10);
        String later = Check.all(bus);
        bus.restoreState();
        Check.is("P51 the silence is back", Check.all(bus), before);
        bus.cast(10);
        bus.saveState();
        bus.run(20);
        bus.restoreState();
        Check.is("P51 the cast is saved", Check.all(bus), later);
    }

    private static void veto() {
        BallotBus bus = Check.bus("class a;class b;class c;class d;asker x credits 12;asker y credits 5;"
            + "round 6;veto 7;line 9;");
        Check.is("P36 from credits", bus.veto(0, 2), 0);
        Check.is("P36 credits", bus.asker(0, 0), 5);
        Check.fails("P36 vetoed", Check.STATE, () -> bus.veto(0, 2));
        Check.fails("P36 vetoed by another one", Check.STATE, () -> bus.veto(1, 2));
        Check.is("P36 some debt", bus.veto(0, 0), 2);
        Check.is("P36 credits", bus.asker(0, 0), 0);
        Check.is("P36 as much as the line", bus.veto(0, 3), 9);
        Check.fails("P36 beyond the line", Check.STATE, () -> bus.veto(0, 1));
        Check.is("P36 no change", bus.asker(0, 1) * 10 + bus.asker(0, 9), 93);
        Check.is("P36 another asker", bus.veto(1, 1), 2);
        Check.is("P36 all are vetoed", bus.count(13), 15);
        int[] bad = {-1, 4, Integer.MIN_VALUE, Integer.MAX_VALUE};
        for (int value : bad) {
            Check.fails("P36 asker " + value, Check.INDEX, () -> bus.veto(value, 2));
            Check.fails("P36 class " + value, Check.INDEX, () -> bus.veto(0, value));
        }
        Check.fails("P36 asker 2", Check.INDEX, () -> bus.veto(2, 2));
        bus.run(1);
        Check.is("P36 an order is voted", bus.count(13), 0);
        Check.fails("P36 beyond the line", Check.STATE, () -> bus.veto(0, 1));
        Check.is("P36 possible again", bus.veto(1, 2), 9);
        bus.run(5);
        Check.is("P36 until an order is voted", bus.count(13), 4);
        BallotBus free = Check.bus("class a;asker x credits 3;veto 0;");
        Check.is("P36 free", free.veto(0, 0), 0);
        Check.is("P36 free", free.asker(0, 0), 3);
        Check.is("P36 one veto", free.asker(0, 9), 1);
        BallotBus poor = Check.bus("class a;asker x credits 9;");
        Check.fails("P36 without a line", Check.STATE, () -> poor.veto(0, 0));
        BallotBus exact = Check.bus("class a;asker x credits 10;");
        Check.is("P36 all credits", exact.veto(0, 0), 0);
    }

    private static void payBack() {
        BallotBus bus = Check.bus("class a;class b;asker x credits 3;asker y credits 30;veto 10;line 20;ask x a 20;"
            + "ask x a 2;");
        Check.is("P37 no debt", bus.payBack(1), 0);
        Check.is("P37 no debt", bus.asker(1, 0), 30);
        bus.veto(0, 1);
        Check.is("P37 no credits", bus.payBack(0), 0);
        bus.run(20);
        Check.is("P37 settled by the answer", bus.asker(0, 0), 13);
        // A veto takes the credits first and an answer settles the debt first, so nobody ever has both.
        bus.veto(0, 0);
        Check.is("P37 still no debt", bus.asker(0, 1), 0);
        Check.is("P37 nothing", bus.payBack(0), 0);
        Check.is("P37 credits", bus.asker(0, 0), 3);
        Check.is("P37 each is a change", bus.count(15), 6);
        int[] bad = {-1, 2, Integer.MIN_VALUE, Integer.MAX_VALUE};
        for (int asker : bad) {
            Check.fails("P37 asker " + asker, Check.INDEX, () -> bus.payBack(asker));
        }
        Check.is("P37 no change", bus.count(15), 6);
    }

    private static void setTally() {
        BallotBus bus = Check.bus("class a;class b;asker x credits 0;asker y credits 0;tally firsts;");
        Check.is("P38 before", bus.setTally(2), 1);
        Check.is("P38 before", bus.setTally(0), 2);
        Check.is("P38 tally", bus.count(3), 0);
        Check.is("P38 before", bus.setTally(0), 0);
        int[] bad = {-1, 3, Integer.MIN_VALUE, Integer.MAX_VALUE};
        for (int tally : bad) {
            Check.fails("P38 tally " + tally, Check.ARGUMENT, () -> bus.setTally(tally));
        }
        Check.is("P38 no change", bus.count(15) * 10 + bus.count(3), 30);
    }

    private static void setManner() {
        BallotBus bus = Check.bus("class a;class b owing;asker x credits 0;ask x b 3;ask x b 2;");
        Check.is("P39 before", bus.setManner(1, BallotBus.SHORT), 3);
        Check.is("P39 first", bus.kind(1, 5), 1);
        Check.is("P39 other class", bus.kind(0, 0), 0);
        Check.is("P39 before", bus.setManner(1, BallotBus.SERIAL), 1);
        Check.is("P39 first", bus.kind(1, 5), 0);
        int[] bad = {-1, 4, Integer.MIN_VALUE, Integer.MAX_VALUE};
        for (int value : bad) {
            Check.fails("P39 manner " + value, Check.ARGUMENT, () -> bus.setManner(0, value));
            Check.fails("P39 class " + value, Check.INDEX, () -> bus.setManner(value, 0));
            Check.fails("P39 both " + value, Check.INDEX, () -> bus.setManner(value, value));
        }
        Check.fails("P39 class 2", Check.INDEX, () -> bus.setManner(2, 0));
        Check.is("P39 no change", bus.count(15) * 10 + bus.kind(1, 0), 20);
    }

    private static BallotBus busy() {
        BallotBus bus = Check.bus("class a;class b short;asker x credits 9;asker y credits 0;turn 2;round 3;"
            + "veto 4;line 9;ask x a 2;ask y b 3;ask y b 2;ask x a 2;");
        bus.run(3);
        return bus;
    }

    private static void undoEach() {
        undoOf("run", bus -> bus.run(1));
        undoOf("run far", bus -> bus.run(500));
        undoOf("ask", bus -> bus.ask(1, 0, 7));
        undoOf("cancel", bus -> bus.cancel(1));
        undoOf("cast", bus -> bus.cast(10));
        undoOf("veto", bus -> bus.veto(1, 0));
        undoOf("payBack", bus -> bus.payBack(0));
        undoOf("setTally", bus -> bus.setTally(2));
        undoOf("setManner", bus -> bus.setManner(0, 2));
    }

    private static void undoOf(String name, Consumer<BallotBus> change) {
        BallotBus bus = busy();
        String before = Check.all(bus);
        change.accept(bus);
        Check.is("P40 a change: " + name, bus.count(15), 2);
        Check.is("P40 undo " + name, bus.undo(), 1);
        Check.is("P40 all is as before " + name, Check.all(bus), before);
        Check.is("P40 the serial number is free again", bus.ask(0, 0, 1), 4);
        bus.undo();
        Check.is("P40 undo to the text", bus.undo(), 0);
        Check.is("P40 time", bus.count(2), 0);
        Check.fails("P40 none", Check.STATE, bus::undo);
    }

    private static String lines(BallotBus bus) {
        return Check.line(bus, 0) + "/" + Check.line(bus, 1) + "/" + bus.count(3) + "/" + bus.count(11);
    }

    private static void undoLimits() {
        BallotBus bus = busy();
        String[] states = new String[12];
        for (int index = 0; index < 12; index++) {
            states[index] = lines(bus);
            bus.ask(0, index % 2, 1 + index);
        }
        Check.is("P40 eight", bus.count(15), 8);
        Check.fails("P40 a refused call is no change", Check.ARGUMENT, () -> bus.run(0));
        for (int left = 7; left >= 5; left--) {
            Check.is("P40 left", bus.undo(), left);
            Check.is("P40 state " + left, lines(bus), states[left + 4]);
        }
        bus.setTally(1);
        Check.is("P40 one more", bus.count(15), 6);
        Check.is("P40 undo it", bus.undo(), 5);
        for (int left = 4; left >= 0; left--) {
            Check.is("P40 left", bus.undo(), left);
            Check.is("P40 state " + left, lines(bus), states[left + 4]);
        }
        Check.fails("P40 none", Check.STATE, bus::undo);
        Check.is("P40 nothing happened", lines(bus), states[4]);
        BallotBus kept = busy();
        kept.saveState();
        kept.run(1);
        kept.printOrder();
        Check.parse(kept, "x");
        kept.feed(0x61000000, 0, 0, 0, 0);
        kept.truncate(1);
        kept.undo();
        kept.undo();
        Check.is("P40 the buffer stays", kept.find(false), 0);
        Check.is("P40 the error stays", kept.errorCode(), 1);
        Check.is("P40 the error stays", kept.errorOffset(), 0);
        Check.is("P40 the output stays", Check.output(kept), "a > b");
        Check.is("P40 the saved state stays", kept.restoreState(), 3);
    }

    private static void output() {
        BallotBus bus = Check.bus("class abcdef;class b;class cde;class dddddd;class e;asker x credits 99;round 2;veto 1;");
        Check.is("P49 nothing yet", bus.outputByte(0), -1);
        Check.is("P48 bytes", bus.printOrder(), 29);
        Check.is("P48 order", Check.output(bus), "abcdef > b > cde > dddddd > e");
        bus.cast(42130);
        bus.run(1);
        bus.veto(0, 0);
        bus.veto(0, 2);
        Check.is("P49 the text before", Check.output(bus), "abcdef > b > cde > dddddd > e");
        Check.is("P48 bytes", bus.printOrder(), 31);
        Check.is("P48 order with stars", Check.output(bus), "e > cde* > b > dddddd > abcdef*");
        Check.is("P49 first", bus.outputByte(0), 'e');
        Check.is("P49 blank", bus.outputByte(1), 32);
        Check.is("P49 sign", bus.outputByte(2), 62);
        Check.is("P49 last", bus.outputByte(30), 42);
        int[] bad = {-1, 31, 32, Integer.MIN_VALUE, Integer.MAX_VALUE};
        for (int index : bad) {
            Check.is("P49 byte " + index, bus.outputByte(index), -1);
        }
        bus.run(2);
        Check.is("P48 shorter", bus.printOrder(), 29);
        Check.is("P48 in place of the text before", Check.output(bus), "e > cde > b > dddddd > abcdef");
        Check.is("P48 one class", new BallotBus().printOrder(), 1);
        BallotBus most = Check.bus("class aaaaaa;class bbbbbb;class cccccc;class dddddd;class eeeeee;"
            + "asker x credits 0;veto 0;");
        for (int kind = 0; kind < 5; kind++) {
            most.veto(0, kind);
        }
        Check.is("P48 the longest", most.printOrder(), 47);
        Check.is("P48 the longest", Check.output(most), "aaaaaa* > bbbbbb* > cccccc* > dddddd* > eeeeee*");
    }

    private static void state() {
        BallotBus bus = busy();
        Check.fails("P51 nothing saved", Check.STATE, bus::restoreState);
        bus.cast(10);
        bus.veto(1, 1);
        String before = Check.all(bus);
        Check.is("P50 time", bus.saveState(), 3);
        Check.is("P50 no change", bus.count(15), 3);
        bus.run(7);
        bus.ask(0, 0, 9);
        bus.setManner(1, 0);
        bus.setTally(2);
        bus.printOrder();
        Check.parse(bus, ";");
        bus.feed(0x61000000, 0, 0, 0, 0);
        bus.truncate(1);
        Check.is("P51 time", bus.restoreState(), 3);
        Check.is("P51 all is as it was", Check.all(bus), before);
        Check.is("P51 the buffer stays", bus.find(false), 0);
        Check.is("P51 the error stays", bus.errorCode(), 1);
        Check.is("P51 the output stays", Check.output(bus), "a > b");
        Check.is("P51 no changes", bus.count(15), 0);
        Check.fails("P51 nothing to undo", Check.STATE, bus::undo);
        bus.run(1);
        Check.is("P51 it stays saved", bus.restoreState(), 3);
        Check.is("P51 all is as it was", Check.all(bus), before);
    }

    private static void stateInPlaceOfAnother() {
        BallotBus bus = busy();
        bus.saveState();
        bus.cast(10);
        bus.veto(1, 1);
        String before = Check.all(bus);
        bus.run(5);
        Check.is("P50 in place of the earlier one", bus.saveState(), 8);
        String later = Check.all(bus);
        Check.is("P50 undo does not touch it", bus.undo(), 3);
        Check.is("P51 undone", Check.all(bus), before);
        Check.is("P51 time", bus.restoreState(), 8);
        Check.is("P51 the later one", Check.all(bus), later);
        Check.parse(bus, "class a;asker a credits 0;");
        Check.fails("P51 a parse forgets it", Check.STATE, bus::restoreState);
    }
}
