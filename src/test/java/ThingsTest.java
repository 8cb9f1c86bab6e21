/** Promises 7 and 9 to 16: what there is. */
public final class ThingsTest {
    private static final String SETUP = "class a;class b short;class c rich;class d owing;"
        + "asker x credits 5;asker y credits 20 weight 2;asker z credits 0 weight 9;"
        + "turn 2;round 4;veto 8;line 20;silence 2;tally pairs;"
        + "ask x a 3;ask y b 4;ask z b 2;ask x b 2;ask x c 1;ask y c 2;ask z c 3;";

    public static void main(String[] args) {
        count();
        asker();
        kind();
        ballotAndOrder();
        request();
        lines();
        progress();
        answers();
        Check.end();
    }

    private static void count() {
        BallotBus bus = Check.bus(SETUP);
        int[] first = {4, 3, 0, 2, 2, 4, 8, 20, 2, 7, 0, 7, 0, 0, 0, 0};
        for (int what = 0; what < first.length; what++) {
            Check.is("P7 count(" + what + ") at first", bus.count(what), first[what]);
        }
        bus.run(1);
        bus.ask(0, 3, 5);
        bus.cancel(4);
        bus.run(3);
        bus.veto(1, 0);
        bus.veto(1, 3);
        bus.setTally(1);
        int[] then = {4, 3, 4, 1, 2, 4, 8, 20, 2, 5, 1, 8, 1, 9, 1, 7};
        for (int what = 0; what < then.length; what++) {
            Check.is("P7 count(" + what + ") then", bus.count(what), then[what]);
        }
        bus.run(1);
        Check.is("P7 vetoes end", bus.count(13), 0);
        Check.is("P7 votings", bus.count(14), 2);
        Check.is("P7 changes", bus.count(15), 8);
        Check.is("P7 the turn", bus.count(12), 2);
        bus.run(2);
        Check.is("P7 the turn goes round", bus.count(12), 0);
        Check.is("P7 another what", bus.count(16), -1);
        Check.is("P7 another what", bus.count(-1), -1);
        Check.is("P7 another what", bus.count(Integer.MIN_VALUE), -1);
        Check.is("P7 another what", bus.count(Integer.MAX_VALUE), -1);
        BallotBus silent = Check.bus("class a;asker x credits 0;turn 1;round 1;silence 1;");
        silent.run(10);
        Check.is("P7 votings without a vote that counts", silent.count(14), 10);
    }

    private static void expectAsker(BallotBus bus, int asker, int... due) {
        for (int what = 0; what < due.length; what++) {
            Check.is("P9 asker(" + asker + ", " + what + ") at " + bus.count(2), bus.asker(asker, what), due[what]);
        }
    }

    private static void asker() {
        BallotBus bus = Check.bus(SETUP);
        expectAsker(bus, 0, 5, 0, 1, 0, 1, 0, 3, 0, 0, 0);
        expectAsker(bus, 1, 20, 0, 2, 0, 1, 0, 2, 0, 0, 0);
        expectAsker(bus, 2, 0, 0, 9, 0, 1, 0, 2, 0, 0, 0);
        bus.cast(123);
        bus.run(2);
        // Request 0 is in progress, hence it does not wait.
        expectAsker(bus, 0, 5, 0, 1, 0, 1, 1, 2, 0, 0, 0);
        bus.veto(0, 0);
        bus.veto(2, 1);
        expectAsker(bus, 0, 0, 3, 1, 0, 1, 1, 2, 0, 0, 1);
        expectAsker(bus, 2, 0, 8, 9, 0, 1, 0, 2, 0, 0, 1);
        bus.run(1);
        // The turn passed on, and the answer settled the debt of 3.
        expectAsker(bus, 0, 0, 0, 1, 0, 1, 0, 2, 1, 3, 1);
        expectAsker(bus, 1, 20, 0, 2, 0, 1, 0, 2, 0, 0, 0);
        bus.run(2);
        // Classes a and b are vetoed in tick 3, so y is answered first in class c.
        expectAsker(bus, 1, 22, 0, 2, 1, 1, 0, 1, 1, 2, 0);
        bus.run(14);
        // Asker 0 was silent in the turn from 6 to 7 and from 12 to 13, asker 1 in three turns.
        Check.is("P9 silence", bus.asker(0, 3), 2);
        Check.is("P9 not counted", bus.asker(0, 4), 0);
        Check.is("P9 silence", bus.asker(1, 3), 3);
        Check.is("P9 silence", bus.asker(2, 3), 3);
        Check.is("P9 answered", bus.asker(1, 7), 2);
        Check.is("P9 lengths", bus.asker(1, 8), 6);
        int[] bad = {-1, 10, Integer.MIN_VALUE, Integer.MAX_VALUE};
        for (int value : bad) {
            Check.fails("P9 property " + value, Check.INDEX, () -> bus.asker(0, value));
            Check.fails("P9 asker " + value, Check.INDEX, () -> bus.asker(value, 0));
        }
        Check.fails("P9 asker 3", Check.INDEX, () -> bus.asker(3, 0));
        silence();
        creditsHaveAnEnd();
    }

    private static void silence() {
        BallotBus bus = Check.bus("class a;asker x credits 0;turn 1;silence 9;");
        bus.run(90);
        Check.is("P9 silence of 89 turns", bus.asker(0, 3), 89);
        bus.run(10);
        Check.is("P9 silence of 99 turns", bus.asker(0, 3), 99);
        bus.run(5);
        Check.is("P9 silence is at most 99", bus.asker(0, 3), 99);
        Check.is("P9 no cast", bus.asker(0, 5), 0);
        bus.cast(0);
        Check.is("P9 the turn has a cast", bus.asker(0, 5), 1);
        Check.is("P9 the cast ends the silence at once", bus.asker(0, 3), 0);
        Check.is("P9 it counts at once", bus.asker(0, 4), 1);
        bus.run(1);
        Check.is("P9 silence behind a turn with a cast", bus.asker(0, 3), 0);
        Check.is("P9 the next turn has no cast", bus.asker(0, 5), 0);
        bus.run(1);
        Check.is("P9 silence begins again", bus.asker(0, 3), 1);
        BallotBus two = Check.bus("class a;asker x credits 0;asker y credits 0;turn 2;silence 9;");
        two.run(9);
        Check.is("P9 x is silent", two.asker(0, 3), 2);
        two.cast(0);
        Check.is("P9 x has cast", two.asker(0, 3), 0);
        Check.is("P9 the silence of y stays", two.asker(1, 3), 2);
        two.cast(0);
        Check.is("P9 x has cast again", two.asker(0, 3), 0);
    }

    private static void creditsHaveAnEnd() {
        BallotBus bus = Check.bus("class a;asker x credits 990;ask x a 9;ask x a 1;");
        bus.run(9);
        Check.is("P9 credits 999", bus.asker(0, 0), 999);
        bus.run(1);
        Check.is("P9 credits are at most 999", bus.asker(0, 0), 999);
        Check.is("P9 all lengths", bus.asker(0, 8), 10);
    }

    private static void expectKind(BallotBus bus, int kind, int... due) {
        for (int what = 0; what < due.length; what++) {
            Check.is("P10 kind(" + kind + ", " + what + ") at " + bus.count(2), bus.kind(kind, what), due[what]);
        }
    }

    private static void kind() {
        BallotBus bus = Check.bus(SETUP);
        expectKind(bus, 0, 0, 1, 0, 0, 0, 0);
        expectKind(bus, 1, 1, 3, 0, 1, 0, 2);
        expectKind(bus, 2, 2, 3, 0, 2, 0, 5);
        expectKind(bus, 3, 3, 0, 0, 3, 0, -1);
        bus.cast(3210);
        bus.run(1);
        expectKind(bus, 0, 0, 0, 0, 0, 0, -1);
        bus.veto(1, 1);
        expectKind(bus, 1, 1, 3, 0, 1, 1, 2);
        bus.run(3);
        // Class b is vetoed, so class c comes next: first the request of asker y with its 12 credits.
        expectKind(bus, 0, 0, 0, 1, 0, 0, -1);
        expectKind(bus, 2, 2, 2, 0, 2, 0, 4);
        bus.run(1);
        expectKind(bus, 1, 1, 3, 0, 1, 0, 2);
        expectKind(bus, 2, 2, 2, 1, 2, 0, 4);
        int[] bad = {-1, 6, Integer.MIN_VALUE, Integer.MAX_VALUE};
        for (int value : bad) {
            Check.fails("P10 property " + value, Check.INDEX, () -> bus.kind(0, value));
            Check.fails("P10 class " + value, Check.INDEX, () -> bus.kind(value, 0));
        }
        Check.fails("P10 class 4", Check.INDEX, () -> bus.kind(4, 0));
    }

    private static void ballotAndOrder() {
        BallotBus bus = Check.bus(SETUP);
        Check.is("P11 at first", Check.ballot(bus, 1), "0123");
        bus.run(3);
        bus.cast(3021);
        Check.is("P11 cast", Check.ballot(bus, 1), "3021");
        Check.is("P11 others stay", Check.ballot(bus, 0) + Check.ballot(bus, 2), "01230123");
        Check.is("P12 at first", Check.order(bus), "0123");
        bus.run(2);
        bus.cast(3201);
        Check.is("P12 until it is voted", Check.order(bus), "0123");
        bus.run(3);
        Check.is("P12 until it is voted", Check.order(bus), "0123");
        bus.run(1);
        Check.is("P12 voted", Check.order(bus), "3201");
        Check.is("P10 place", bus.kind(3, 3), 0);
        Check.is("P10 place", bus.kind(1, 3), 3);
        int[] bad = {-1, 4, Integer.MIN_VALUE, Integer.MAX_VALUE};
        for (int value : bad) {
            Check.fails("P11 place " + value, Check.INDEX, () -> bus.ballot(0, value));
            Check.fails("P11 asker " + value, Check.INDEX, () -> bus.ballot(value, 0));
            Check.fails("P12 place " + value, Check.INDEX, () -> bus.order(value));
        }
        Check.fails("P11 asker 3", Check.INDEX, () -> bus.ballot(3, 0));
        BallotBus silent = Check.bus("class a;class b;asker x credits 0;turn 2;round 2;silence 1;");
        silent.cast(10);
        silent.run(5);
        Check.is("P12 x does not count", silent.votes(), 0);
        silent.run(4);
        Check.is("P12 no vote counts", Check.order(silent), "10");
    }

    private static void request() {
        BallotBus bus = Check.bus(SETUP);
        bus.run(2);
        bus.ask(2, 3, 20);
        int[][] due = {{0, 0, 3, 1, 0}, {1, 1, 4, 4, 0}, {2, 1, 2, 2, 0}, {2, 3, 20, 20, 2}};
        int[] serials = {0, 1, 2, 7};
        for (int index = 0; index < serials.length; index++) {
            for (int what = 0; what < 5; what++) {
                Check.is("P13 request(" + serials[index] + ", " + what + ")", bus.request(serials[index], what),
                    due[index][what]);
            }
        }
        bus.run(1);
        bus.cancel(4);
        int[] gone = {0, 4, 8, -1, Integer.MIN_VALUE, Integer.MAX_VALUE};
        for (int serial : gone) {
            Check.fails("P13 request " + serial, Check.ELEMENT, () -> bus.request(serial, 0));
            Check.fails("P13 both", Check.ARGUMENT, () -> bus.request(serial, 5));
        }
        int[] bad = {-1, 5, Integer.MIN_VALUE, Integer.MAX_VALUE};
        for (int what : bad) {
            Check.fails("P13 what " + what, Check.ARGUMENT, () -> bus.request(1, what));
        }
        Check.is("P13 behind a gap", bus.request(5, 2), 2);
    }

    private static void lines() {
        BallotBus bus = Check.bus(SETUP);
        Check.is("P14 serial", Check.line(bus, 0), "0");
        Check.is("P14 short", Check.line(bus, 1), "2 3 1");
        Check.is("P14 rich", Check.line(bus, 2), "5 4 6");
        Check.is("P14 none", Check.line(bus, 3), "");
        bus.setManner(1, BallotBus.SERIAL);
        Check.is("P14 serial", Check.line(bus, 1), "1 2 3");
        bus.setManner(1, BallotBus.RICH);
        Check.is("P14 rich", Check.line(bus, 1), "1 3 2");
        bus.veto(2, 0);
        bus.veto(0, 3);
        bus.setManner(1, BallotBus.OWING);
        bus.setManner(2, BallotBus.OWING);
        Check.is("P14 owing", Check.line(bus, 1), "2 3 1");
        Check.is("P14 owing", Check.line(bus, 2), "6 4 5");
        bus.setManner(2, BallotBus.RICH);
        Check.is("P14 a tie goes by the serial number", Check.line(bus, 2), "5 4 6");
        bus.run(1);
        Check.is("P14 the one in progress does not wait", Check.line(bus, 0), "");
        Check.fails("P14 no such index", Check.ELEMENT, () -> bus.line(0, 0));
        int[] bad = {-1, 3, Integer.MIN_VALUE, Integer.MAX_VALUE};
        for (int index : bad) {
            Check.fails("P14 index " + index, Check.ELEMENT, () -> bus.line(1, index));
        }
        int[] kinds = {-1, 4, Integer.MIN_VALUE, Integer.MAX_VALUE};
        for (int kind : kinds) {
            Check.fails("P14 class " + kind, Check.INDEX, () -> bus.line(kind, 0));
            Check.fails("P14 both", Check.INDEX, () -> bus.line(kind, -1));
        }
    }

    private static void progress() {
        BallotBus bus = Check.bus(SETUP);
        Check.is("P15 none at first", bus.progress(), -1);
        int[] due = {0, 0, -1, 2, -1, 3, -1, 1, 1, 1, -1, 5, -1, -1, 6, 6, -1, -1};
        // Class b is short; behind it come, as y has 24 credits and x has 10, 5 and 4, and last 6 of z.
        for (int tick = 0; tick < due.length; tick++) {
            bus.run(1);
            Check.is("P15 behind tick " + tick, bus.progress(), due[tick]);
        }
        BallotBus vetoed = Check.bus("class a;class b;asker x credits 9;veto 1;round 5;ask x a 2;ask x b 2;ask x a 1;");
        vetoed.run(1);
        vetoed.veto(0, 0);
        vetoed.run(1);
        Check.is("P15 the one in progress goes on", vetoed.count(10), 1);
        vetoed.run(1);
        Check.is("P15 a vetoed class waits", vetoed.progress(), 1);
        vetoed.veto(0, 1);
        vetoed.run(2);
        Check.is("P15 nothing that is not vetoed", vetoed.progress(), -1);
        Check.is("P15 two answers", vetoed.count(10), 2);
        vetoed.run(1);
        Check.is("P15 voted again", vetoed.count(10), 3);
    }

    private static void answers() {
        BallotBus bus = Check.bus(SETUP);
        bus.run(2);
        Check.fails("P16 no answer yet", Check.ELEMENT, () -> bus.answer(0, 0));
        bus.veto(0, 3);
        bus.ask(1, 1, 1);
        bus.run(2);
        int[][] due = {{7, 1, 1, 2, 3, 0}, {0, 0, 0, 0, 2, 3}};
        for (int back = 0; back < 2; back++) {
            for (int what = 0; what < 6; what++) {
                Check.is("P16 answer(" + back + ", " + what + ")", bus.answer(back, what), due[back][what]);
            }
        }
        int[] backs = {-1, 2, 60, Integer.MIN_VALUE, Integer.MAX_VALUE};
        for (int back : backs) {
            Check.fails("P16 back " + back, Check.ELEMENT, () -> bus.answer(back, 0));
            Check.fails("P16 both", Check.ARGUMENT, () -> bus.answer(back, 6));
        }
        int[] bad = {-1, 6, Integer.MIN_VALUE, Integer.MAX_VALUE};
        for (int what : bad) {
            Check.fails("P16 what " + what, Check.ARGUMENT, () -> bus.answer(0, what));
        }
        BallotBus many = new BallotBus();
        for (int number = 0; number < 75; number++) {
            many.ask(0, 0, 1);
            many.run(1);
            int size = Math.min(60, number + 1);
            Check.is("P16 latest", many.answer(0, 0), number);
            Check.is("P16 oldest", many.answer(size - 1, 0), number + 1 - size);
        }
        Check.fails("P16 beyond the latest 60", Check.ELEMENT, () -> many.answer(60, 0));
        Check.is("P16 all count", many.count(10), 75);
        for (int back = 0; back < 60; back++) {
            Check.is("P16 answer(" + back + ", 4)", many.answer(back, 4), 74 - back);
        }
        many.undo();
        Check.is("P16 undone", many.answer(0, 0), 73);
        Check.is("P16 undone", many.answer(59, 0), 14);
        ring();
    }

    /** Saved answers come back, also those that others have taken the places of. */
    private static void ring() {
        BallotBus bus = new BallotBus();
        Check.fails("P16 none", Check.ELEMENT, () -> bus.answer(0, 0));
        for (int number = 0; number < 70; number++) {
            if (number == 30) {
                bus.saveState();
            }
            bus.ask(0, 0, 1);
            bus.run(1);
        }
        bus.restoreState();
        for (int back = 0; back < 30; back++) {
            Check.is("P16 restored answer(" + back + ", 0)", bus.answer(back, 0), 29 - back);
        }
        Check.fails("P16 no more than 30", Check.ELEMENT, () -> bus.answer(30, 0));
        bus.ask(0, 0, 1);
        bus.run(2);
        Check.is("P16 one more", bus.answer(0, 0), 30);
        bus.undo();
        Check.is("P16 undone", bus.answer(0, 0), 29);
        Check.fails("P16 undone", Check.ELEMENT, () -> bus.answer(30, 0));
    }
}
