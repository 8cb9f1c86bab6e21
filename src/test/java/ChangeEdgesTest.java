import java.util.function.Consumer;

/** The boundary cases of sections 3 and 4 and of promises 32 to 51: changes, forecasts, output and state. */
public final class ChangeEdgesTest {
    private static final String BASE = "class a;asker x credits 0;";
    private static final int[] FAR = {Integer.MIN_VALUE, -1000, -2, -1, 1001, 1 << 16, Integer.MAX_VALUE};

    public static void main(String[] args) {
        lengthsOfRequests();
        settledDebts();
        fullCredits();
        vetoesUntilTheVoting();
        tiesOfManners();
        ticksOfCalls();
        numbersOfCalls();
        fortyRequests();
        mostRequestsAsked();
        cancelledOnes();
        codesOfBallots();
        pricesOfVetoes();
        payBackOfNothing();
        talliesAndManners();
        eightChanges();
        whatIsNoChange();
        refusedCallsChangeNothing();
        answeredInTime();
        vetoesThatArePossible();
        bestOnATie();
        ballotOfTheTurn();
        silentWithinThousand();
        longestUntilEmpty();
        outputEdges();
        nothingSaved();
        savedStateIsApart();
        Check.end();
    }

    // ---- section 3: ticks, debts, vetoes, manners

    private static void lengthsOfRequests() {
        for (int length = 1; length <= 20; length++) {
            BallotBus bus = Check.bus(BASE + "ask x a" + length + ";");
            Check.is("P41 a length of " + length, bus.answeredIn(0, 500), length);
            Check.is("P32 not before " + length, length == 1 ? 0 : bus.run(length - 1), 0);
            Check.is("P32 then it is answered", bus.run(1), 1);
            Check.is("P16 in the tick " + (length - 1), bus.answer(0, 4), length - 1);
            Check.is("P9 credits", bus.asker(0, 0), length);
            Check.is("P33 taken in the tick at which it was asked", bus.ask(0, 0, 1), 1);
            Check.is("P32 and answered in it", bus.run(1), 1);
        }
    }

    private static void settledDebts() {
        for (int length = 1; length <= 20; length++) {
            BallotBus bus = Check.bus(BASE + "veto 7;line 7;ask x a" + length + ";");
            Check.is("P36 a debt", bus.veto(0, 0), 7);
            bus.run(length);
            Check.is("P16 settled by " + length, bus.answer(0, 5), Math.min(7, length));
            Check.is("P9 debt behind " + length, bus.asker(0, 1), Math.max(0, 7 - length));
            Check.is("P9 credits behind " + length, bus.asker(0, 0), Math.max(0, length - 7));
            Check.is("P30 debts behind " + length, bus.debts(), Math.max(0, 7 - length));
        }
    }

    private static void fullCredits() {
        int[] credits = {978, 979, 980, 998, 999};
        for (int credit : credits) {
            BallotBus bus = Check.bus("class a;asker x credits " + credit + ";veto 1;ask x a 20;ask x a 1;");
            bus.run(20);
            Check.is("P9 at most 999 from " + credit, bus.asker(0, 0), Math.min(999, credit + 20));
            bus.run(1);
            Check.is("P9 at most 999 from " + credit, bus.asker(0, 0), Math.min(999, credit + 21));
            Check.is("P9 all lengths count", bus.asker(0, 8), 21);
            bus.veto(0, 0);
            Check.is("P9 a veto takes from them", bus.asker(0, 0), Math.min(999, credit + 21) - 1);
        }
    }

    private static void vetoesUntilTheVoting() {
        BallotBus first = Check.bus(BASE + "veto 0;ask x a 1;");
        first.veto(0, 0);
        Check.is("P32 the voting at 0 ends a veto", first.run(1), 1);
        BallotBus each = Check.bus(BASE + "veto 0;round 1;");
        for (int time = 0; time < 5; time++) {
            each.veto(0, 0);
            each.ask(0, 0, 1);
            Check.is("P32 a voting in each tick ends it", each.run(1), 1);
        }
        BallotBus slow = Check.bus(BASE + "veto 0;round 50;");
        slow.run(1);
        slow.veto(0, 0);
        slow.ask(0, 0, 1);
        Check.is("P32 vetoed up to 49", slow.run(49), 0);
        Check.is("P10 vetoed at 50", slow.kind(0, 4), 1);
        Check.fails("P36 vetoed at 50", Check.STATE, () -> slow.veto(0, 0));
        Check.is("P32 answered in the tick at 50", slow.run(1), 1);
        Check.is("P10 not vetoed at 51", slow.kind(0, 4), 0);
        Check.is("P36 possible again", slow.veto(0, 0), 0);
    }

    private static void tiesOfManners() {
        String[] manners = {"", " short", " rich", " owing"};
        for (String manner : manners) {
            BallotBus bus = Check.bus("class a" + manner + ";asker x credits 5;asker y credits 5;"
                + "ask y a 3;ask x a 3;ask y a 3;ask x a 3;");
            Check.is("P14 a tie goes by the serial number:" + manner, Check.line(bus, 0), "0 1 2 3");
            Check.is("P10 the first one:" + manner, bus.kind(0, 5), 0);
            bus.run(1);
            Check.is("P15 it is taken:" + manner, bus.progress(), 0);
        }
        BallotBus bus = Check.bus("class a;class b;asker x credits 5;asker y credits 6;asker z credits 4;veto 7;line 9;"
            + "ask x a 3;ask y a 2;ask z a 3;ask x a 2;");
        String[] due = {"0 1 2 3", "1 3 0 2", "1 0 3 2", "0 1 2 3"};
        for (int manner = 0; manner < 4; manner++) {
            bus.setManner(0, manner);
            Check.is("P14 manner " + manner, Check.line(bus, 0), due[manner]);
        }
        bus.veto(2, 1);
        Check.is("P14 the greatest debt now", Check.line(bus, 0), "2 0 1 3");
        bus.setManner(0, BallotBus.RICH);
        Check.is("P14 the most credits now", Check.line(bus, 0), "1 0 3 2");
    }

    // ---- promises 32 to 45: the bounds of ticks and of other numbers

    private static void ticks(String what, int most, Consumer<Integer> method) {
        method.accept(1);
        method.accept(most);
        int[] bad = {0, most + 1};
        for (int ticks : bad) {
            Check.fails(what + " in " + ticks, Check.ARGUMENT, () -> method.accept(ticks));
        }
        for (int ticks : FAR) {
            Check.fails(what + " in " + ticks, Check.ARGUMENT, () -> method.accept(ticks));
        }
    }

    private static void ticksOfCalls() {
        BallotBus bus = Check.bus(BASE + "ask x a 2;");
        ticks("P41 answeredIn", 500, ticks -> bus.answeredIn(0, ticks));
        ticks("P42 answersIn", 500, ticks -> bus.answersIn(ticks, -1));
        ticks("P42 answersIn", 500, ticks -> bus.answersIn(ticks, 0));
        ticks("P43 bestVeto", 500, ticks -> bus.bestVeto(0, ticks));
        ticks("P44 bestTally", 500, bus::bestTally);
        ticks("P45 bestBallot", 100, bus::bestBallot);
        Check.is("P41 to P45 no change", bus.count(2) + bus.count(15), 0);
        ticks("P32 run", 500, bus::run);
        Check.is("P32 only the good ones", bus.count(2) * 10 + bus.count(15), 5012);
        for (int ticks : FAR) {
            Check.fails("P41 ticks and serial", Check.ARGUMENT, () -> bus.answeredIn(7, ticks));
            Check.fails("P42 ticks and asker", Check.INDEX, () -> bus.answersIn(ticks, 1));
            Check.fails("P42 asker", Check.INDEX, () -> bus.answersIn(1, -2));
            Check.fails("P43 ticks and asker", Check.INDEX, () -> bus.bestVeto(1, ticks));
        }
    }

    private static void refuses(String what, Class<?> due, int[] bad, Consumer<Integer> method) {
        for (int value : bad) {
            Check.fails(what + " " + value, due, () -> method.accept(value));
        }
        for (int value : FAR) {
            Check.fails(what + " " + value, due, () -> method.accept(value));
        }
    }

    private static void numbersOfCalls() {
        BallotBus bus = Check.bus("class a;class b;asker x credits 0;asker y credits 0;asker z credits 0;veto 0;");
        int[] asker = {3, 8};
        int[] kind = {2, 5};
        refuses("P33 asker", Check.INDEX, asker, value -> bus.ask(value, 0, 1));
        refuses("P33 class", Check.INDEX, kind, value -> bus.ask(0, value, 1));
        refuses("P33 asker, and a length", Check.INDEX, asker, value -> bus.ask(value, 0, 0));
        refuses("P33 class, and a length", Check.INDEX, kind, value -> bus.ask(0, value, 21));
        refuses("P33 length", Check.ARGUMENT, new int[] {0, 21}, value -> bus.ask(0, 0, value));
        refuses("P34 serial", Check.ELEMENT, new int[] {0, 1}, bus::cancel);
        refuses("P36 asker", Check.INDEX, asker, value -> bus.veto(value, 0));
        refuses("P36 class", Check.INDEX, kind, value -> bus.veto(0, value));
        refuses("P37 asker", Check.INDEX, asker, bus::payBack);
        refuses("P38 tally", Check.ARGUMENT, new int[] {3}, bus::setTally);
        refuses("P39 class", Check.INDEX, kind, value -> bus.setManner(value, 0));
        refuses("P39 class, and a manner", Check.INDEX, kind, value -> bus.setManner(value, 4));
        refuses("P39 manner", Check.ARGUMENT, new int[] {4}, value -> bus.setManner(0, value));
        refuses("P41 serial", Check.ELEMENT, new int[] {0, 1}, value -> bus.answeredIn(value, 1));
        refuses("P43 asker", Check.INDEX, asker, value -> bus.bestVeto(value, 1));
        refuses("P46 asker", Check.INDEX, asker, bus::silentIn);
        Check.is("P33 to P46 no change", bus.count(15), 0);
        Check.is("P33 the last ones", bus.ask(2, 1, 20), 0);
        Check.is("P36 the last ones", bus.veto(2, 1), 0);
        Check.is("P37 the last one", bus.payBack(2), 0);
        Check.is("P38 the last one", bus.setTally(2), 0);
        Check.is("P39 the last ones", bus.setManner(1, 3), 0);
        Check.is("P42 the last one", bus.answersIn(21, 2), 1);
        Check.is("P43 the last one", bus.bestVeto(2, 1), -1);
        Check.is("P46 the last one", bus.silentIn(2), 28);
    }

    // ---- promises 33 to 39

    private static void fortyRequests() {
        StringBuilder text = new StringBuilder(BASE);
        for (int number = 0; number < 40; number++) {
            text.append("ask x a 2;");
        }
        BallotBus bus = Check.bus(text.toString());
        Check.fails("P33 forty wait", Check.STATE, () -> bus.ask(0, 0, 1));
        Check.fails("P33 forty wait, and a length", Check.ARGUMENT, () -> bus.ask(0, 0, 21));
        bus.run(1);
        Check.fails("P33 39 wait and one is in progress", Check.STATE, () -> bus.ask(0, 0, 1));
        Check.is("P33 no change", bus.count(11) * 10 + bus.count(15), 401);
        bus.run(1);
        Check.is("P33 one is answered", bus.ask(0, 0, 1), 40);
        Check.fails("P33 forty again", Check.STATE, () -> bus.ask(0, 0, 1));
        Check.is("P34 one is cancelled", bus.cancel(1), 2);
        Check.is("P33 a place is free", bus.ask(0, 0, 1), 41);
        bus.undo();
        bus.undo();
        Check.fails("P33 forty again", Check.STATE, () -> bus.ask(0, 0, 1));
        bus.undo();
        Check.is("P33 the place is free again, the number too", bus.ask(0, 0, 3), 40);
        Check.is("P13 the latest one", bus.request(40, 2), 3);
    }

    /** The bound stands beyond the 512 calls for which the document promises answers; it is held all the same. */
    private static void mostRequestsAsked() {
        BallotBus bus = new BallotBus();
        for (int serial = 0; serial < 9998; serial++) {
            bus.ask(0, 0, 1);
            bus.cancel(serial);
        }
        Check.is("P33 the last serial number", bus.ask(0, 0, 1), 9998);
        Check.is("P7 so many were asked", bus.count(11), 9999);
        Check.fails("P33 9999 were asked", Check.STATE, () -> bus.ask(0, 0, 1));
        Check.fails("P33 9999 were asked, and a length", Check.ARGUMENT, () -> bus.ask(0, 0, 0));
        bus.cancel(9998);
        Check.fails("P33 also if none waits", Check.STATE, () -> bus.ask(0, 0, 1));
    }

    private static void cancelledOnes() {
        BallotBus bus = Check.bus(BASE + "ask x a 3;ask x a 20;ask x a 1;");
        bus.run(1);
        Check.fails("P34 in progress", Check.STATE, () -> bus.cancel(0));
        bus.run(1);
        Check.fails("P34 in progress, one tick is left", Check.STATE, () -> bus.cancel(0));
        Check.is("P34 the greatest length", bus.cancel(1), 20);
        Check.fails("P34 twice", Check.ELEMENT, () -> bus.cancel(1));
        Check.is("P34 the smallest length", bus.cancel(2), 1);
        Check.fails("P34 not asked yet", Check.ELEMENT, () -> bus.cancel(3));
        Check.is("P7 none waits", bus.count(9), 0);
        bus.run(1);
        Check.fails("P34 answered", Check.ELEMENT, () -> bus.cancel(0));
        Check.is("P32 the cancelled ones are not answered", bus.run(500), 0);
        BallotBus early = Check.bus(BASE + "ask x a 3;");
        Check.is("P34 before it is taken", early.cancel(0), 3);
        Check.is("P32 nothing is left", early.run(5), 0);
    }

    private static boolean isBallot(int code, int kinds) {
        String digits = code < 0 ? "" : String.format("%0" + kinds + "d", code);
        boolean good = digits.length() == kinds;
        for (int kind = 0; kind < kinds; kind++) {
            good = good && digits.indexOf('0' + kind) >= 0;
        }
        return good;
    }

    private static void codesOfBallots() {
        String classes = "class a;class b;class c;class d;class e;";
        int bound = 1;
        for (int kinds = 1; kinds <= 5; kinds++) {
            bound *= 10;
            BallotBus bus = null;
            for (int code = -20; code < bound + 20; code++) {
                if (bus == null || code % 250 == 0) {
                    bus = Check.bus(classes.substring(0, 8 * kinds) + "asker x credits 0;");
                }
                castOf(bus, code, isBallot(code, kinds), kinds);
            }
            for (int code : FAR) {
                castOf(bus, code, false, kinds);
            }
        }
    }

    private static void castOf(BallotBus bus, int code, boolean isGood, int kinds) {
        if (isGood) {
            Check.is("P35 code " + code, bus.cast(code), 0);
            Check.is("P11 ballot of code " + code, Check.ballot(bus, 0), String.format("%0" + kinds + "d", code));
        } else {
            Check.fails("P35 code " + code + " with " + kinds, Check.ARGUMENT, () -> bus.cast(code));
        }
    }

    private static void pricesOfVetoes() {
        int[][] cases = {{0, 0, 0, 0}, {10, 10, 0, 0}, {11, 10, 0, 0}, {9, 10, 0, -1}, {9, 10, 1, 1}, {8, 10, 1, -1},
            {0, 10, 10, 10}, {0, 10, 9, -1}, {0, 99, 99, 99}, {0, 99, 98, -1}, {1, 99, 98, 98}, {999, 99, 0, 0}};
        for (int[] each : cases) {
            String name = "credits " + each[0] + " veto " + each[1] + " line " + each[2];
            BallotBus bus = Check.bus("class a;asker x credits " + each[0] + ";veto " + each[1] + ";line " + each[2]
                + ";");
            if (each[3] < 0) {
                Check.fails("P36 " + name, Check.STATE, () -> bus.veto(0, 0));
                Check.is("P36 nothing is paid: " + name, bus.asker(0, 0), each[0]);
                Check.is("P43 no veto is possible: " + name, bus.bestVeto(0, 10), -1);
            } else {
                Check.is("P36 " + name, bus.veto(0, 0), each[3]);
                Check.is("P36 credits: " + name, bus.asker(0, 0), Math.max(0, each[0] - each[1]));
                Check.is("P36 debt: " + name, bus.asker(0, 1), each[3]);
                Check.fails("P36 vetoed: " + name, Check.STATE, () -> bus.veto(0, 0));
            }
            Check.is("P9 vetoes: " + name, bus.asker(0, 9), each[3] < 0 ? 0 : 1);
        }
        BallotBus more = Check.bus("class a;class b;asker x credits 0;veto 5;line 9;");
        Check.is("P36 a debt", more.veto(0, 0), 5);
        Check.fails("P36 two debts are too much", Check.STATE, () -> more.veto(0, 1));
        Check.fails("P36 both", Check.STATE, () -> more.veto(0, 0));
    }

    private static void payBackOfNothing() {
        BallotBus bus = Check.bus("class a;asker x credits 5;asker y credits 0;veto 6;line 1;");
        Check.is("P37 credits, and no debt", bus.payBack(0), 0);
        Check.is("P37 neither", bus.payBack(1), 0);
        bus.veto(0, 0);
        Check.is("P37 a debt, and no credits", bus.payBack(0), 0);
        Check.is("P37 it stays", bus.asker(0, 1), 1);
        bus.ask(0, 0, 3);
        bus.run(3);
        Check.is("P37 credits, and no debt any more", bus.payBack(0), 0);
        Check.is("P37 they stay", bus.asker(0, 0), 2);
    }

    private static void talliesAndManners() {
        BallotBus bus = new BallotBus();
        for (int before = 0; before < 3; before++) {
            for (int tally = 0; tally < 3; tally++) {
                bus.setTally(before);
                Check.is("P38 the tally before", bus.setTally(tally), before);
                Check.is("P7 the tally", bus.count(3), tally);
            }
        }
        for (int before = 0; before < 4; before++) {
            for (int manner = 0; manner < 4; manner++) {
                bus.setManner(0, before);
                Check.is("P39 the manner before", bus.setManner(0, manner), before);
                Check.is("P10 the manner", bus.kind(0, 0), manner);
            }
        }
    }

    // ---- section 4 and promise 40: what can be undone

    private static void eightChanges() {
        for (int changes = 0; changes <= 10; changes++) {
            BallotBus bus = new BallotBus();
            for (int number = 0; number < changes; number++) {
                Check.is("P7 changes", bus.count(15), Math.min(8, number));
                bus.run(1);
            }
            int left = Math.min(8, changes);
            Check.is("P7 changes", bus.count(15), left);
            for (int undone = 1; undone <= left; undone++) {
                Check.is("P40 that can still be undone", bus.undo(), left - undone);
                Check.is("P40 undone of " + changes, bus.count(2), changes - undone);
            }
            Check.fails("P40 none of " + changes, Check.STATE, bus::undo);
            Check.is("P40 no change", bus.count(2), changes - left);
            bus.run(1);
            Check.is("P40 a new one", bus.undo(), 0);
        }
    }

    private static void whatIsNoChange() {
        BallotBus bus = Check.bus("class a;class b;asker x credits 0;ask x a 3;");
        Check.fails("P40 a parse is no change", Check.STATE, bus::undo);
        bus.run(1);
        bus.setTally(2);
        bus.undo();
        bus.printOrder();
        bus.saveState();
        bus.answeredIn(0, 9);
        bus.answersIn(9, 0);
        bus.bestVeto(0, 9);
        bus.bestTally(9);
        bus.bestBallot(9);
        bus.silentIn(0);
        bus.emptyIn();
        Check.parse(bus, "?");
        Check.find(bus, true, "x");
        Check.is("P40 one change is left", bus.count(15), 1);
        Check.is("P40 it is undone", bus.undo(), 0);
        Check.is("P40 it was run", bus.count(2), 0);
        Check.is("P40 the saved state stays as it was", bus.restoreState(), 1);
        Check.fails("P40 nothing can be undone then", Check.STATE, bus::undo);
        bus.run(1);
        Check.parse(bus, BASE);
        Check.fails("P40 nothing behind a parse", Check.STATE, bus::undo);
    }

    private static BallotBus full() {
        BallotBus bus = Check.bus("class a;class b;asker x credits 9;asker y credits 3;veto 5;line 4;round 50;turn 9;"
            + "ask x a 2;ask y b 5;ask y a 2;");
        bus.run(3);
        bus.saveState();
        bus.veto(0, 0);
        bus.cast(10);
        bus.printOrder();
        Check.parse(bus, "class 0");
        Check.put(bus, "b");
        return bus;
    }

    private static void refused(String name, Class<?> due, Consumer<BallotBus> call) {
        BallotBus bus = full();
        String before = Check.all(bus);
        Check.fails("refused " + name, due, () -> call.accept(bus));
        Check.is("no change by " + name, Check.all(bus), before);
        Check.is("no output by " + name, Check.output(bus), "a* > b");
        Check.is("no error by " + name, bus.errorCode() * 100 + bus.errorOffset(), 106);
        Check.is("the buffer stays behind " + name, bus.find(false), 1);
        Check.is("the changes stay behind " + name, bus.undo(), 2);
        Check.is("the latest change is undone behind " + name, bus.asker(0, 5), 0);
        Check.is("the saved state stays behind " + name, bus.restoreState(), 3);
        Check.is("the saved state stays behind " + name, bus.kind(0, 4), 0);
    }

    private static void refusedCallsChangeNothing() {
        refused("asker", Check.INDEX, bus -> bus.asker(2, 0));
        refused("kind", Check.INDEX, bus -> bus.kind(0, 6));
        refused("ballot", Check.INDEX, bus -> bus.ballot(0, 2));
        refused("order", Check.INDEX, bus -> bus.order(2));
        refused("request", Check.ELEMENT, bus -> bus.request(0, 0));
        refused("line", Check.ELEMENT, bus -> bus.line(0, 1));
        refused("answer", Check.ELEMENT, bus -> bus.answer(1, 0));
        refused("points", Check.INDEX, bus -> bus.points(2));
        refused("voted", Check.ARGUMENT, bus -> bus.voted(3, 0));
        refused("middle", Check.INDEX, bus -> bus.middle(2));
        refused("run", Check.ARGUMENT, bus -> bus.run(501));
        refused("ask of no asker", Check.INDEX, bus -> bus.ask(2, 0, 1));
        refused("ask of length 0", Check.ARGUMENT, bus -> bus.ask(0, 0, 0));
        refused("cancel in progress", Check.STATE, bus -> bus.cancel(2));
        refused("cancel of none", Check.ELEMENT, bus -> bus.cancel(0));
        refused("cast", Check.ARGUMENT, bus -> bus.cast(11));
        refused("veto of a vetoed class", Check.STATE, bus -> bus.veto(1, 0));
        refused("veto of no class", Check.INDEX, bus -> bus.veto(1, 2));
        refused("payBack", Check.INDEX, bus -> bus.payBack(2));
        refused("setTally", Check.ARGUMENT, bus -> bus.setTally(3));
        refused("setManner", Check.ARGUMENT, bus -> bus.setManner(0, 4));
        refused("answeredIn", Check.ELEMENT, bus -> bus.answeredIn(3, 5));
        refused("answersIn", Check.INDEX, bus -> bus.answersIn(5, -2));
        refused("bestVeto", Check.ARGUMENT, bus -> bus.bestVeto(0, 0));
        refused("bestTally", Check.ARGUMENT, bus -> bus.bestTally(501));
        refused("bestBallot", Check.ARGUMENT, bus -> bus.bestBallot(101));
        refused("silentIn", Check.INDEX, bus -> bus.silentIn(2));
        BallotBus poor = Check.bus("class a;class b;asker x credits 3;veto 5;line 1;");
        String before = Check.all(poor);
        Check.fails("P36 too great a debt", Check.STATE, () -> poor.veto(0, 1));
        Check.is("P36 no change", Check.all(poor), before);
        Check.fails("P40 nothing to undo", Check.STATE, poor::undo);
        Check.fails("P51 nothing saved", Check.STATE, poor::restoreState);
        Check.is("P40, P51 no change", Check.all(poor), before);
    }

    // ---- promises 41 to 47: forecasts

    private static void answeredInTime() {
        StringBuilder text = new StringBuilder(BASE);
        for (int serial = 0; serial < 26; serial++) {
            text.append("ask x a20;");
        }
        BallotBus bus = Check.bus(text.toString());
        Check.is("P41 in the tick 500", bus.answeredIn(24, 500), 500);
        Check.is("P41 not in 499 ticks", bus.answeredIn(24, 499), -1);
        Check.is("P41 behind the tick 500", bus.answeredIn(25, 500), -1);
        Check.is("P42 in 500 ticks", bus.answersIn(500, -1), 25);
        Check.is("P42 in 499 ticks", bus.answersIn(499, 0), 24);
        Check.is("P32 in 499 ticks", bus.run(499), 24);
        Check.is("P41 in progress, the last tick", bus.answeredIn(24, 1), 1);
        Check.is("P41 the next one", bus.answeredIn(25, 20), -1);
        Check.is("P41 the next one", bus.answeredIn(25, 21), 21);
        Check.fails("P41 answered", Check.ELEMENT, () -> bus.answeredIn(23, 1));
        Check.fails("P41 not asked yet", Check.ELEMENT, () -> bus.answeredIn(26, 1));
        bus.cancel(25);
        Check.fails("P41 cancelled", Check.ELEMENT, () -> bus.answeredIn(25, 1));
        BallotBus one = Check.bus(BASE + "ask x a 1;");
        Check.is("P41 in one tick", one.answeredIn(0, 1), 1);
        Check.is("P42 in one tick", one.answersIn(1, -1), 1);
    }

    private static void vetoesThatArePossible() {
        BallotBus owing = Check.bus("class a;class b;class c;asker x credits 0;asker y credits 0;veto 5;line 5;round 50;"
            + "ask y a 5;ask x a 9;ask y b 1;");
        owing.run(1);
        owing.veto(1, 2);
        // A veto of class a would bring request 2 in time, but the debt that forbids it is settled only later.
        Check.is("P43 its debt is too great now", owing.bestVeto(1, 6), -1);
        Check.is("P43 another asker", owing.bestVeto(0, 6), -1);
        BallotBus second = Check.bus("class a;class b;class c;asker x credits 0;asker y credits 0;veto 5;line 5;"
            + "round 50;");
        second.run(1);
        second.ask(0, 1, 9);
        second.ask(1, 2, 1);
        Check.is("P43 the first one brings nothing, the second one does", second.bestVeto(1, 2), 1);
        second.veto(0, 1);
        Check.is("P43 that class is vetoed already", second.bestVeto(1, 2), -1);
        BallotBus voted = Check.bus("class a;class b;asker x credits 0;asker y credits 0;veto 0;round 4;");
        voted.run(1);
        voted.ask(0, 0, 9);
        voted.ask(1, 1, 1);
        voted.veto(0, 0);
        voted.veto(0, 1);
        Check.is("P43 all are vetoed", voted.bestVeto(1, 500), -1);
        BallotBus all = Check.bus("class a;class b;class c;asker x credits 0;veto 0;round 50;ask x a 1;");
        Check.is("P43 as many as without a veto", all.bestVeto(0, 500), -1);
        Check.is("P43 none waits", new BallotBus().bestVeto(0, 500), -1);
        // A debt would put y in front, but there is no class to veto for it but the one that has the requests.
        for (int kinds = 1; kinds <= 5; kinds++) {
            StringBuilder text = new StringBuilder("asker x credits 0;asker y credits 0;veto 5;line 5;round 50;");
            for (int kind = 0; kind < kinds; kind++) {
                text.append("class ").append((char) ('a' + kind)).append(" owing;");
            }
            BallotBus debt = Check.bus(text.toString());
            debt.run(1);
            debt.ask(0, 0, 9);
            debt.ask(1, 0, 1);
            Check.is("P43 with " + kinds + " classes", debt.bestVeto(1, 1), kinds == 1 ? -1 : 1);
        }
    }

    private static void bestOnATie() {
        BallotBus none = Check.bus("class a;class b;class c;asker x credits 0;tally pairs;");
        Check.is("P44 none waits", none.bestTally(500), 0);
        Check.is("P45 none waits", none.bestBallot(100), 12);
        BallotBus tie = Check.bus("class a;class b;class c;class d;asker x credits 0;asker y credits 0;veto 0;round 50;");
        tie.run(1);
        tie.ask(0, 1, 20);
        tie.ask(0, 2, 20);
        tie.ask(1, 3, 1);
        Check.is("P43 one veto is not enough", tie.bestVeto(1, 1), -1);
        Check.is("P43 of two the smaller one", tie.bestVeto(1, 21), 1);
        tie.veto(0, 1);
        Check.is("P43 the other one then", tie.bestVeto(1, 1), 2);
        BallotBus ballots = Check.bus("class a;class b;class c;class d;class e;asker x credits 0;ask x d 1;ask x e 1;");
        Check.is("P45 the smallest code with d or e in front", ballots.bestBallot(1), 1234);
        Check.is("P45 d and e ahead of all", ballots.bestBallot(2), 1234);
        ballots.ask(0, 0, 2);
        Check.is("P45 d ahead of a", ballots.bestBallot(1), 12304);
        Check.is("P45 the smallest code of all", ballots.bestBallot(100), 1234);
    }

    private static void ballotOfTheTurn() {
        BallotBus bus = Check.bus("class a;class b;asker x credits 0 weight 9;asker y credits 0;turn 2;round 1;"
            + "ask y a 3;ask x b 3;");
        Check.is("P45 for x, though the turn passes on in these ticks", bus.bestBallot(3), 10);
        Check.is("P45 both are answered", bus.bestBallot(6), 1);
    }

    private static void silentWithinThousand() {
        StringBuilder text = new StringBuilder("class a;turn 20;silence 9;");
        for (char name = 'a'; name < 'i'; name++) {
            text.append("asker ").append(name).append(" credits 0;");
        }
        BallotBus bus = Check.bus(text.toString());
        // The ninth turn of asker 0 ends in the tick at 8 * 8 * 20 + 20.
        bus.run(300);
        Check.is("P46 in 1001 ticks", bus.silentIn(0), -1);
        bus.run(1);
        Check.is("P46 in 1000 ticks", bus.silentIn(0), 1000);
        bus.run(1);
        Check.is("P46 in 999 ticks", bus.silentIn(0), 999);
        Check.is("P46 the next asker 20 ticks later", bus.silentIn(1), -1);
        bus.run(499);
        bus.run(499);
        Check.is("P46 in one tick", bus.silentIn(0), 1);
        bus.run(1);
        Check.is("P46 now", bus.silentIn(0), 0);
        Check.is("P24 it does not count now", bus.votes(), 7);
    }

    private static void longestUntilEmpty() {
        BallotBus bus = Check.bus(BASE + "veto 0;round 50;");
        Check.is("P47 none", bus.emptyIn(), 0);
        bus.run(1);
        bus.veto(0, 0);
        Check.is("P47 none", bus.emptyIn(), 0);
        for (int serial = 0; serial < 40; serial++) {
            bus.ask(0, 0, 20);
            Check.is("P47 " + (serial + 1), bus.emptyIn(), 49 + 20 * (serial + 1));
        }
        bus.run(500);
        bus.run(348);
        Check.is("P47 one tick is left", bus.emptyIn(), 1);
        bus.run(1);
        Check.is("P47 none", bus.emptyIn(), 0);
    }

    // ---- promises 48 to 51: output and state

    private static void outputEdges() {
        BallotBus bus = Check.bus("class abcdef;class b;asker x credits 9;veto 1;");
        Check.is("P49 no output yet", bus.outputByte(0), -1);
        Check.is("P48 two names", bus.printOrder(), 10);
        Check.is("P49 the first byte", bus.outputByte(0), 'a');
        Check.is("P49 the last byte", bus.outputByte(9), 'b');
        Check.is("P49 none behind it", bus.outputByte(10), -1);
        for (int index : FAR) {
            Check.is("P49 byte " + index, bus.outputByte(index), -1);
        }
        bus.veto(0, 1);
        Check.is("P49 the text before", Check.output(bus), "abcdef > b");
        Check.is("P48 a star at the end", bus.printOrder(), 11);
        Check.is("P48 a star at the end", Check.output(bus), "abcdef > b*");
        bus.undo();
        Check.is("P40 the output stays", Check.output(bus), "abcdef > b*");
        Check.is("P48 shorter again", bus.printOrder(), 10);
        Check.is("P49 nothing is left of the text before", bus.outputByte(10), -1);
        Check.parse(bus, BASE);
        Check.is("P4 the output stays", Check.output(bus), "abcdef > b");
        Check.is("P48 the shortest", bus.printOrder(), 1);
        Check.is("P48 the shortest", Check.output(bus), "a");
    }

    private static void nothingSaved() {
        BallotBus bus = new BallotBus();
        Check.fails("P51 nothing saved", Check.STATE, bus::restoreState);
        Check.is("P50 the time 0", bus.saveState(), 0);
        Check.is("P51 the time 0", bus.restoreState(), 0);
        bus.run(500);
        Check.is("P50 the time 500", bus.saveState(), 500);
        Check.parse(bus, "?");
        Check.is("P51 behind a faulty text", bus.restoreState(), 500);
        Check.parse(bus, BASE);
        Check.fails("P51 none behind a good text", Check.STATE, bus::restoreState);
        Check.is("P4 and nothing changes", bus.count(2), 0);
    }

    private static void savedStateIsApart() {
        BallotBus bus = Check.bus("class a;class b;asker x credits 20;turn 1;silence 1;round 3;ask x a 2;ask x b 2;");
        bus.run(2);
        String before = Check.all(bus);
        bus.saveState();
        bus.cast(10);
        Check.is("P23 x counts, in the saved state it does not", bus.isDecisive(0), true);
        bus.veto(0, 0);
        bus.cancel(1);
        bus.setManner(0, 2);
        bus.setTally(1);
        bus.run(9);
        Check.is("P51 the time", bus.restoreState(), 2);
        Check.is("P51 all is as it was", Check.all(bus), before);
        bus.cast(10);
        bus.run(7);
        Check.is("P40 undone", bus.undo() + bus.undo(), 1);
        Check.is("P40 the restored state", Check.all(bus), before);
        bus.run(7);
        bus.restoreState();
        Check.is("P51 again", bus.run(2), 1);
        Check.is("P51 what was asked goes on", bus.answer(0, 0), 1);
    }
}
