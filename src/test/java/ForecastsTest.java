/** Promises 41 to 47: forecasts. */
public final class ForecastsTest {
    private static final int[] BAD_TICKS = {0, -1, 501, Integer.MIN_VALUE, Integer.MAX_VALUE};

    public static void main(String[] args) {
        answeredIn();
        answersIn();
        bestVeto();
        vetoPays();
        bestTally();
        bestBallot();
        bestBallotForTheTurn();
        silentIn();
        emptyIn();
        nothingChanges();
        Check.end();
    }

    private static BallotBus plain() {
        return Check.bus("class a;class b;asker x credits 0;asker y credits 0;turn 5;round 4;veto 0;"
            + "ask x a 3;ask y b 2;ask x b 4;");
    }

    private static void answeredIn() {
        BallotBus bus = plain();
        Check.is("P41 the first", bus.answeredIn(0, 3), 3);
        Check.is("P41 the first", bus.answeredIn(0, 2), -1);
        Check.is("P41 the second", bus.answeredIn(1, 500), 5);
        Check.is("P41 the third", bus.answeredIn(2, 9), 9);
        Check.is("P41 the third", bus.answeredIn(2, 8), -1);
        Check.is("P41 one tick", bus.answeredIn(0, 1), -1);
        bus.run(2);
        Check.is("P41 in progress", bus.answeredIn(0, 1), 1);
        bus.run(1);
        for (int ticks : BAD_TICKS) {
            Check.fails("P41 ticks " + ticks, Check.ARGUMENT, () -> bus.answeredIn(1, ticks));
            Check.fails("P41 both", Check.ARGUMENT, () -> bus.answeredIn(0, ticks));
        }
        int[] gone = {0, 3, -1, Integer.MIN_VALUE, Integer.MAX_VALUE};
        for (int serial : gone) {
            Check.fails("P41 request " + serial, Check.ELEMENT, () -> bus.answeredIn(serial, 5));
        }
        bus.veto(0, 1);
        // Class b waits for the voting in tick 4.
        Check.is("P41 vetoed", bus.answeredIn(1, 500), 3);
    }

    private static void answersIn() {
        BallotBus bus = plain();
        Check.is("P42 all", bus.answersIn(5, -1), 2);
        Check.is("P42 x", bus.answersIn(5, 0), 1);
        Check.is("P42 y", bus.answersIn(5, 1), 1);
        Check.is("P42 x later", bus.answersIn(9, 0), 2);
        Check.is("P42 all later", bus.answersIn(500, -1), 3);
        Check.is("P42 none yet", bus.answersIn(2, -1), 0);
        bus.run(5);
        Check.is("P42 from now on", bus.answersIn(500, -1), 1);
        Check.is("P42 from now on", bus.answersIn(4, 0), 1);
        Check.is("P42 from now on", bus.answersIn(500, 1), 0);
        int[] bad = {-2, 2, Integer.MIN_VALUE, Integer.MAX_VALUE};
        for (int asker : bad) {
            Check.fails("P42 asker " + asker, Check.INDEX, () -> bus.answersIn(1, asker));
            Check.fails("P42 both", Check.INDEX, () -> bus.answersIn(0, asker));
        }
        for (int ticks : BAD_TICKS) {
            Check.fails("P42 ticks " + ticks, Check.ARGUMENT, () -> bus.answersIn(ticks, 0));
            Check.fails("P42 ticks " + ticks, Check.ARGUMENT, () -> bus.answersIn(ticks, -1));
        }
    }

    private static BallotBus vetoes(int price, int line) {
        BallotBus bus = Check.bus("class a;class b;class c;asker x credits 0;asker y credits 0;asker z credits 0;"
            + "round 10;veto " + price + ";line " + line + ";ask x a 1;ask x a 4;ask y b 2;ask z c 1;");
        bus.run(1);
        return bus;
    }

    private static void bestVeto() {
        BallotBus bus = vetoes(5, 5);
        // Without a veto: request 1 in tick 4, 2 in tick 6, 3 in tick 7.
        Check.is("P43 y vetoes a", bus.bestVeto(1, 2), 0);
        Check.is("P43 y gets nothing more", bus.bestVeto(1, 6), -1);
        Check.is("P43 y gets nothing at all", bus.bestVeto(1, 1), -1);
        Check.is("P43 x gets nothing more", bus.bestVeto(0, 3), -1);
        Check.is("P43 z vetoes a", bus.bestVeto(2, 3), 0);
        Check.is("P43 z vetoes a or b", bus.bestVeto(2, 5), 0);
        Check.is("P43 too dear", vetoes(6, 5).bestVeto(1, 2), -1);
        bus.veto(0, 0);
        Check.is("P43 z vetoes b now", bus.bestVeto(2, 2), 1);
        bus.veto(1, 1);
        Check.is("P43 nothing more for z", bus.bestVeto(2, 2), -1);
        int[] bad = {-1, 3, Integer.MIN_VALUE, Integer.MAX_VALUE};
        for (int asker : bad) {
            Check.fails("P43 asker " + asker, Check.INDEX, () -> bus.bestVeto(asker, 5));
            Check.fails("P43 both", Check.INDEX, () -> bus.bestVeto(asker, 0));
        }
        for (int ticks : BAD_TICKS) {
            Check.fails("P43 ticks " + ticks, Check.ARGUMENT, () -> bus.bestVeto(0, ticks));
        }
        Check.is("P43 vetoes end with the voting", plain().bestVeto(1, 2), -1);
        BallotBus far = vetoes(5, 5);
        far.answersIn(500, -1);
        Check.is("P43 from now on", far.bestVeto(1, 2), 0);
    }

    private static void vetoPays() {
        // With its debt asker y comes first in the class that takes those that owe.
        BallotBus bus = Check.bus("class a;class b;class c owing;asker x credits 0;asker y credits 0;"
            + "veto 5;line 5;ask x a 1;ask x c 3;ask y c 3;");
        bus.run(1);
        Check.is("P43 the price counts", bus.bestVeto(1, 3), 0);
        Check.is("P43 six ticks bring both", bus.bestVeto(1, 6), -1);
    }

    private static BallotBus tallies(String tally) {
        BallotBus bus = Check.bus("class a;class b;class c;asker x credits 0 weight 3;asker y credits 0 weight 2;"
            + "asker z credits 0 weight 2;turn 1;round 3;silence 1;tally " + tally + ";");
        bus.cast(21);
        bus.run(2);
        bus.cast(120);
        bus.run(1);
        bus.cast(210);
        return bus;
    }

    private static void bestTally() {
        BallotBus bus = tallies("points");
        bus.ask(0, 0, 1);
        bus.ask(0, 2, 5);
        bus.ask(0, 1, 3);
        // In tick 3 points vote c a b, firsts a c b, pairs c b a.
        // From tick 6 on only z counts, which votes c b a.
        Check.is("P44 firsts answer a", bus.bestTally(1), 1);
        Check.is("P44 still", bus.bestTally(4), 1);
        Check.is("P44 one by each tally", bus.bestTally(5), 0);
        Check.is("P44 two by firsts", bus.bestTally(6), 1);
        Check.is("P44 all", bus.bestTally(20), 0);
        BallotBus pairs = tallies("points");
        pairs.ask(0, 0, 6);
        pairs.ask(0, 1, 3);
        pairs.ask(0, 2, 1);
        Check.is("P44 points answer c, as pairs do", pairs.bestTally(1), 0);
        Check.is("P44 pairs answer b next", pairs.bestTally(4), 2);
        Check.is("P44 whatever the tally is", tallies("pairs").bestTally(5), 0);
        for (int ticks : BAD_TICKS) {
            Check.fails("P44 ticks " + ticks, Check.ARGUMENT, () -> bus.bestTally(ticks));
        }
    }

    private static void bestBallot() {
        BallotBus bus = Check.bus("class a;class b;class c;asker x credits 0;ask x a 5;ask x b 5;ask x c 2;");
        Check.is("P45 nothing to gain", bus.bestBallot(1), 12);
        Check.is("P45 c first", bus.bestBallot(2), 201);
        Check.is("P45 a and c", bus.bestBallot(7), 21);
        Check.is("P45 all", bus.bestBallot(12), 12);
        Check.is("P45 a hundred ticks", bus.bestBallot(100), 12);
        int[] bad = {0, -1, 101, 500, Integer.MIN_VALUE, Integer.MAX_VALUE};
        for (int ticks : bad) {
            Check.fails("P45 ticks " + ticks, Check.ARGUMENT, () -> bus.bestBallot(ticks));
        }
        Check.is("P45 one class", new BallotBus().bestBallot(5), 0);
        BallotBus five = Check.bus("class a;class b;class c;class d;class e;asker x credits 0;"
            + "ask x e 1;ask x d 1;ask x c 1;ask x b 1;ask x a 9;");
        Check.is("P45 five classes", five.bestBallot(4), 12340);
        Check.is("P45 two of five", five.bestBallot(1), 10234);
        // Only with all its points turned round class e gets ahead of the others: 20 against 19, 18, 17, 16.
        BallotBus last = Check.bus("class a;class b;class c;class d;class e;asker x credits 0 weight 5;"
            + "asker y credits 0 weight 4;ask y a 20;ask y b 20;ask y c 20;ask y d 20;ask x e 1;");
        Check.is("P45 the last of all ballots", last.bestBallot(1), 43210);
    }

    private static void bestBallotForTheTurn() {
        // The asker in turn has its requests in class b; those of the other one do not matter.
        BallotBus bus = Check.bus("class a;class b;asker x credits 0;asker y credits 0 weight 9;turn 2;round 4;"
            + "ask x a 1;ask x a 1;ask x a 1;ask x a 1;ask x a 1;ask x a 1;ask y b 3;");
        Check.is("P45 y outvotes x", bus.bestBallot(4), 1);
        bus.run(3);
        Check.is("P45 y has the turn", bus.bestBallot(4), 10);
        Check.is("P45 too short for y", bus.bestBallot(3), 1);
        // A cast makes the silent asker count at once, hence in the voting of tick 8, ahead of the end of its turn.
        BallotBus silent = Check.bus("class a;class b;asker x credits 0;turn 4;round 4;silence 1;");
        silent.run(5);
        Check.is("P45 x does not count", silent.votes(), 0);
        silent.ask(0, 0, 3);
        silent.ask(0, 0, 5);
        silent.ask(0, 1, 2);
        // In tick 9 class b, with its 2 ticks, is answered, and class a, with 5, is not.
        Check.is("P45 b is not answered in time", silent.bestBallot(4), 1);
        Check.is("P45 the ballot counts in tick 8", silent.bestBallot(5), 10);
        Check.is("P45 x is silent as before", silent.votes() * 10 + silent.asker(0, 3), 1);
    }

    private static void silentIn() {
        BallotBus bus = Check.bus("class a;asker x credits 0;asker y credits 0;turn 2;silence 2;");
        Check.is("P46 x", bus.silentIn(0), 7);
        Check.is("P46 y", bus.silentIn(1), 9);
        bus.cast(0);
        Check.is("P46 x has cast", bus.silentIn(0), 11);
        bus.run(8);
        Check.is("P46 x", bus.silentIn(0), 3);
        Check.is("P46 y next", bus.silentIn(1), 1);
        bus.run(1);
        Check.is("P46 y does not count", bus.silentIn(1), 0);
        int[] bad = {-1, 2, Integer.MIN_VALUE, Integer.MAX_VALUE};
        for (int asker : bad) {
            Check.fails("P46 asker " + asker, Check.INDEX, () -> bus.silentIn(asker));
        }
        StringBuilder askers = new StringBuilder("class a;turn 20;silence 9;");
        for (char name = 'a'; name < 'i'; name++) {
            askers.append("asker ").append(name).append(" credits 0;");
        }
        BallotBus again = new BallotBus();
        again.run(13);
        Check.is("P46 does not count in the fifth turn", again.silentIn(0), 0);
        again.cast(0);
        // The turns from 15 to 24 end without a cast: in the ticks 18, 21 and 24.
        Check.is("P46 counts behind a cast", again.silentIn(0), 12);
        BallotBus slow = Check.bus(askers.toString());
        // The ninth turn of asker 0 ends in tick 1300.
        slow.run(300);
        Check.is("P46 not within 1000", slow.silentIn(0), -1);
        slow.run(1);
        Check.is("P46 within 1000", slow.silentIn(0), 1000);
    }

    private static void emptyIn() {
        Check.is("P47 now", new BallotBus().emptyIn(), 0);
        BallotBus bus = plain();
        Check.is("P47 nine", bus.emptyIn(), 9);
        bus.run(8);
        Check.is("P47 one", bus.emptyIn(), 1);
        bus.run(1);
        Check.is("P47 now", bus.emptyIn(), 0);
        bus.ask(0, 0, 1);
        bus.veto(0, 0);
        Check.is("P47 vetoed until tick 12", bus.emptyIn(), 4);
        BallotBus full = new BallotBus();
        for (int number = 0; number < 40; number++) {
            full.ask(0, 0, 20);
        }
        Check.is("P47 the longest", full.emptyIn(), 800);
    }

    private static void nothingChanges() {
        BallotBus bus = plain();
        bus.run(2);
        bus.printOrder();
        bus.answeredIn(2, 500);
        bus.answersIn(500, -1);
        bus.bestVeto(0, 500);
        bus.bestTally(500);
        bus.bestBallot(100);
        bus.silentIn(0);
        bus.emptyIn();
        int[] due = {2, 2, 2, 0, 5, 4, 0, 0, 3, 2, 0, 3, 0, 0, 1, 1};
        for (int what = 0; what < due.length; what++) {
            Check.is("P41 to P47 count(" + what + ")", bus.count(what), due[what]);
        }
        Check.is("P45 no ballot is cast", bus.asker(0, 5), 0);
        Check.is("P45 no ballot is cast", Check.ballot(bus, 0), "01");
        Check.is("P43 nothing is paid", bus.asker(0, 9), 0);
        Check.is("P47 progress", bus.progress(), 0);
        Check.is("P47 left", bus.request(0, 3), 1);
        Check.is("P47 undo", bus.undo(), 0);
    }
}
