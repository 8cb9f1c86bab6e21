/** Promises 17 to 31: votes and accounts. */
public final class VotesTest {
    /** The three tallies order three classes in three ways here. */
    private static BallotBus split() {
        BallotBus bus = Check.bus("class a;class b;class c;asker x credits 0 weight 3;asker y credits 0 weight 2;"
            + "asker z credits 0 weight 2;turn 1;round 50;silence 1;");
        Check.is("asker", bus.cast(21), 0);
        bus.run(2);
        Check.is("asker", bus.cast(120), 1);
        bus.run(1);
        Check.is("asker", bus.cast(210), 2);
        return bus;
    }

    /** A class that no vote counts for any more, with an order that is not that of the numbers. */
    private static BallotBus silent() {
        BallotBus bus = Check.bus("class a;class b;class c;asker x credits 0;turn 2;round 2;silence 1;");
        bus.cast(210);
        bus.run(5);
        return bus;
    }

    public static void main(String[] args) {
        points();
        firsts();
        beatsAndWins();
        champion();
        voted();
        ties();
        isDecisive();
        votes();
        differences();
        distance();
        middle();
        meanWait();
        share();
        debtsAndRichest();
        Check.end();
    }

    private static void points() {
        BallotBus bus = split();
        int[] due = {6, 6, 9};
        for (int kind = 0; kind < 3; kind++) {
            Check.is("P17 points(" + kind + ")", bus.points(kind), due[kind]);
            Check.is("P17 no vote counts", silent().points(kind), 0);
        }
        int[] bad = {-1, 3, Integer.MIN_VALUE, Integer.MAX_VALUE};
        for (int kind : bad) {
            Check.fails("P17 class " + kind, Check.INDEX, () -> bus.points(kind));
        }
        bus.run(3);
        Check.is("P17 x and y are silent, z is not", bus.points(2), 0 + 4);
    }

    private static void firsts() {
        BallotBus bus = split();
        int[][] due = {{3, 0, 4}, {2, 2, 3}, {2, 5, 0}};
        for (int kind = 0; kind < 3; kind++) {
            for (int place = 0; place < 3; place++) {
                Check.is("P18 firsts(" + kind + ", " + place + ")", bus.firsts(kind, place), due[kind][place]);
                Check.is("P18 no vote counts", silent().firsts(kind, place), 0);
            }
        }
        int[] bad = {-1, 3, Integer.MIN_VALUE, Integer.MAX_VALUE};
        for (int value : bad) {
            Check.fails("P18 class " + value, Check.INDEX, () -> bus.firsts(value, 0));
            Check.fails("P18 place " + value, Check.INDEX, () -> bus.firsts(0, value));
        }
    }

    private static void beatsAndWins() {
        BallotBus bus = split();
        boolean[][] due = {{false, false, false}, {true, false, false}, {true, true, false}};
        for (int kind = 0; kind < 3; kind++) {
            for (int other = 0; other < 3; other++) {
                Check.is("P19 beats(" + kind + ", " + other + ")", bus.beats(kind, other), due[kind][other]);
                Check.is("P19 no vote counts", silent().beats(kind, other), false);
            }
            Check.is("P20 wins(" + kind + ")", bus.wins(kind), kind);
            Check.is("P20 no vote counts", silent().wins(kind), 0);
        }
        int[] bad = {-1, 3, Integer.MIN_VALUE, Integer.MAX_VALUE};
        for (int value : bad) {
            Check.fails("P19 class " + value, Check.INDEX, () -> bus.beats(value, 0));
            Check.fails("P19 other " + value, Check.INDEX, () -> bus.beats(0, value));
            Check.fails("P19 both " + value, Check.INDEX, () -> bus.beats(value, value));
            Check.fails("P20 class " + value, Check.INDEX, () -> bus.wins(value));
        }
        BallotBus tie = Check.bus("class a;class b;asker x credits 0;asker y credits 0;turn 1;");
        tie.cast(10);
        Check.is("P19 as many against it", tie.beats(0, 1) || tie.beats(1, 0), false);
        Check.is("P20 as many against it", tie.wins(0) + tie.wins(1), 0);
    }

    private static void champion() {
        Check.is("P21 beats all", split().champion(), 2);
        Check.is("P21 no vote counts", silent().champion(), -1);
        Check.is("P21 one class", new BallotBus().champion(), 0);
        BallotBus one = Check.bus("class a;asker x credits 0;turn 1;silence 1;");
        one.run(2);
        Check.is("P21 one class, no vote counts", one.champion(), -1);
        BallotBus cycle = split();
        cycle.run(1);
        cycle.cast(12);
        cycle.run(1);
        cycle.cast(120);
        cycle.run(1);
        cycle.cast(201);
        Check.is("P21 a cycle", cycle.champion(), -1);
        Check.is("P21 a cycle", cycle.wins(0) * 100 + cycle.wins(1) * 10 + cycle.wins(2), 111);
    }

    private static void voted() {
        BallotBus bus = split();
        Check.is("P22 points", Check.voted(bus, 0), "201");
        Check.is("P22 firsts", Check.voted(bus, 1), "021");
        Check.is("P22 pairs", Check.voted(bus, 2), "210");
        Check.is("P22 the order stays", Check.order(bus), "012");
        for (int tally = 0; tally < 3; tally++) {
            Check.is("P22 no vote counts", Check.voted(silent(), tally), "210");
        }
        int[] bad = {-1, 3, Integer.MIN_VALUE, Integer.MAX_VALUE};
        for (int value : bad) {
            Check.fails("P22 tally " + value, Check.ARGUMENT, () -> bus.voted(value, 0));
            Check.fails("P22 place " + value, Check.INDEX, () -> bus.voted(0, value));
            Check.fails("P22 both " + value, Check.INDEX, () -> bus.voted(value, value));
        }
    }

    private static void ties() {
        BallotBus bus = Check.bus("class a;class b;class c;asker x credits 0;asker y credits 0;turn 1;");
        bus.cast(120);
        bus.run(2);
        bus.cast(210);
        // b and c tie by points, at place 0, at place 1, in pairs: the smaller number comes first.
        Check.is("P22 tie of points", Check.voted(bus, 0), "120");
        Check.is("P22 tie of firsts", Check.voted(bus, 1), "120");
        Check.is("P22 tie of pairs and points", Check.voted(bus, 2), "120");
        BallotBus cycle = Check.bus("class a;class b;class c;asker x credits 0 weight 2;asker y credits 0 weight 3;"
            + "asker z credits 0 weight 4;turn 1;");
        cycle.cast(12);
        cycle.run(2);
        cycle.cast(120);
        cycle.run(1);
        cycle.cast(201);
        // Each class beats one other; points: a 4 + 4, b 2 + 6, c 3 + 8; firsts at place 1: a 4, b 2.
        Check.is("P22 tie of pairs goes by points", Check.voted(cycle, 2), "201");
        Check.is("P22 firsts", Check.voted(cycle, 1), "210");
        Check.is("P22 points", Check.voted(cycle, 0), "201");
    }

    private static void isDecisive() {
        BallotBus bus = split();
        Check.is("P23 x", bus.isDecisive(0), true);
        Check.is("P23 y", bus.isDecisive(1), false);
        Check.is("P23 z", bus.isDecisive(2), true);
        bus.setTally(1);
        Check.is("P23 y by firsts", bus.isDecisive(1), false);
        Check.is("P23 z by firsts", bus.isDecisive(2), true);
        bus.setTally(2);
        Check.is("P23 y by pairs", bus.isDecisive(1), true);
        int[] bad = {-1, 3, Integer.MIN_VALUE, Integer.MAX_VALUE};
        for (int asker : bad) {
            Check.fails("P23 asker " + asker, Check.INDEX, () -> bus.isDecisive(asker));
        }
        Check.is("P23 does not count", silent().isDecisive(0), false);
        BallotBus alone = Check.bus("class a;class b;asker x credits 0;turn 5;round 2;silence 1;");
        Check.is("P23 alone, with the ballot of the order", alone.isDecisive(0), false);
        alone.cast(10);
        Check.is("P23 alone, with another ballot", alone.isDecisive(0), true);
        alone.run(1);
        Check.is("P23 alone, the order is voted", alone.isDecisive(0), false);
    }

    private static void votes() {
        BallotBus bus = split();
        Check.is("P24 all", bus.votes(), 7);
        bus.run(2);
        Check.is("P24 x is silent", bus.votes(), 4);
        bus.run(1);
        Check.is("P24 x and y are silent", bus.votes(), 2);
        bus.run(1);
        Check.is("P24 all are silent", bus.votes(), 0);
        bus.cast(12);
        Check.is("P24 x has cast", bus.votes(), 3);
        bus.run(3);
        Check.is("P24 x had cast", bus.votes(), 3);
        castCountsAtOnce();
    }

    private static void castCountsAtOnce() {
        BallotBus one = new BallotBus();
        one.run(13);
        Check.is("P24 four turns without a cast", one.votes(), 0);
        one.cast(0);
        Check.is("P24 a cast in the fifth turn", one.votes(), 1);
        one.undo();
        Check.is("P24 the cast is undone", one.votes(), 0);
        BallotBus bus = silent();
        bus.cast(102);
        Check.is("P17 the ballot counts at once", bus.points(1), 2);
        Check.is("P18 the ballot counts at once", bus.firsts(1, 0), 1);
        Check.is("P19 the ballot counts at once", bus.beats(1, 0), true);
        Check.is("P20 the ballot counts at once", bus.wins(1), 2);
        Check.is("P21 the ballot counts at once", bus.champion(), 1);
        Check.is("P22 the ballot counts at once", Check.voted(bus, 0), "102");
        Check.is("P23 the ballot counts at once", bus.isDecisive(0), true);
        Check.is("P27 the ballot counts at once", Check.middle(bus), "102");
        Check.is("P12 the order stays until the voting", Check.order(bus), "210");
        // The voting of tick 6 comes ahead of the end of the turn.
        bus.run(2);
        Check.is("P12 the ballot counts in the voting", Check.order(bus), "102");
    }

    private static void differences() {
        BallotBus bus = split();
        int[][] due = {{0, 1, 1}, {1, 0, 2}, {1, 2, 0}};
        for (int tally = 0; tally < 3; tally++) {
            for (int other = 0; other < 3; other++) {
                Check.is("P25 differences(" + tally + ", " + other + ")", bus.differences(tally, other),
                    due[tally][other]);
                Check.is("P25 no vote counts", silent().differences(tally, other), 0);
            }
        }
        int[] bad = {-1, 3, Integer.MIN_VALUE, Integer.MAX_VALUE};
        for (int value : bad) {
            Check.fails("P25 tally " + value, Check.ARGUMENT, () -> bus.differences(value, 0));
            Check.fails("P25 other " + value, Check.ARGUMENT, () -> bus.differences(0, value));
        }
    }

    private static void distance() {
        BallotBus bus = split();
        for (int asker = 0; asker < 3; asker++) {
            Check.is("P26 distance(" + asker + ")", bus.distance(asker), asker + 1);
        }
        Check.is("P26 to the order, not to that of the numbers", silent().distance(0), 0);
        int[] bad = {-1, 3, Integer.MIN_VALUE, Integer.MAX_VALUE};
        for (int asker : bad) {
            Check.fails("P26 asker " + asker, Check.INDEX, () -> bus.distance(asker));
        }
        BallotBus five = Check.bus("class a;class b;class c;class d;class e;asker x credits 0;");
        five.cast(43210);
        Check.is("P26 all pairs", five.distance(0), 10);
        five.cast(12403);
        Check.is("P26 some pairs", five.distance(0), 4);
    }

    private static void middle() {
        BallotBus bus = split();
        Check.is("P27 middle", Check.middle(bus), "210");
        Check.is("P27 no vote counts", Check.middle(silent()), "012");
        int[] bad = {-1, 3, Integer.MIN_VALUE, Integer.MAX_VALUE};
        for (int place : bad) {
            Check.fails("P27 place " + place, Check.INDEX, () -> bus.middle(place));
        }
        BallotBus tie = Check.bus("class a;class b;class c;asker x credits 0;asker y credits 0;turn 1;");
        tie.cast(210);
        Check.is("P27 of several the first", Check.middle(tie), "012");
        // A cycle: a b c has 4 against c a, b c a has 3 + 2, c a b has 3 + 2 against it.
        BallotBus cycle = Check.bus("class a;class b;class c;asker x credits 0 weight 2;asker y credits 0 weight 3;"
            + "asker z credits 0 weight 4;turn 1;silence 1;");
        cycle.cast(12);
        cycle.run(2);
        cycle.cast(120);
        cycle.run(1);
        cycle.cast(201);
        Check.is("P27 a cycle", Check.middle(cycle), "201");
        cycle.run(2);
        Check.is("P27 x does not count any more", Check.middle(cycle), "201");
        cycle.cast(12);
        cycle.run(3);
        Check.is("P27 x alone counts", Check.middle(cycle), "012");
        BallotBus five = Check.bus("class a;class b;class c;class d;class e;asker x credits 0;");
        five.cast(43210);
        Check.is("P27 the last order", Check.middle(five), "43210");
    }

    private static void meanWait() {
        BallotBus bus = Check.bus("class a;class b;asker x credits 0;ask x a 3;ask x a 2;ask x b 2;");
        Check.is("P28 none", bus.meanWait(0), 0.0);
        bus.run(3);
        Check.is("P28 one", bus.meanWait(0), 2.0);
        bus.run(2);
        Check.is("P28 two", bus.meanWait(0), 3.0);
        Check.is("P28 not yet", bus.meanWait(1), 0.0);
        bus.ask(0, 0, 2);
        bus.run(5);
        // Asked at 5 and answered in the tick at 6.
        Check.is("P28 three", bus.meanWait(0), 7.0 / 3.0);
        Check.is("P28 other class", bus.meanWait(1), 8.0);
        int[] bad = {-1, 2, Integer.MIN_VALUE, Integer.MAX_VALUE};
        for (int kind : bad) {
            Check.fails("P28 class " + kind, Check.INDEX, () -> bus.meanWait(kind));
        }
    }

    private static void share() {
        BallotBus bus = Check.bus("class a;asker x credits 0;asker y credits 0;ask x a 3;ask y a 7;ask x a 20;");
        Check.is("P29 none", bus.share(0), 0.0);
        bus.run(3);
        Check.is("P29 all", bus.share(0), 1.0);
        Check.is("P29 nothing", bus.share(1), 0.0);
        bus.run(7);
        Check.is("P29 three of ten", bus.share(0), 3.0f / 10.0f);
        Check.is("P29 seven of ten", bus.share(1), 7.0f / 10.0f);
        bus.run(20);
        Check.is("P29 all three", bus.share(0), 23.0f / 30.0f);
        int[] bad = {-1, 2, Integer.MIN_VALUE, Integer.MAX_VALUE};
        for (int asker : bad) {
            Check.fails("P29 asker " + asker, Check.INDEX, () -> bus.share(asker));
        }
    }

    private static void debtsAndRichest() {
        BallotBus bus = Check.bus("class a;class b;class c;asker x credits 10;asker y credits 11;asker z credits 11;"
            + "veto 12;line 20;ask y a 2;");
        Check.is("P30 none", bus.debts(), 0);
        Check.is("P31 the smallest on a tie", bus.richest(), 1);
        bus.veto(1, 0);
        Check.is("P30 one", bus.debts(), 1);
        Check.is("P31 y is at -1", bus.richest(), 2);
        bus.veto(2, 1);
        bus.veto(0, 2);
        Check.is("P30 all", bus.debts(), 1 + 1 + 2);
        Check.is("P31 debts count", bus.richest(), 1);
        bus.run(2);
        Check.is("P30 y has settled", bus.debts(), 3);
        Check.is("P31 y has 1", bus.richest(), 1);
        Check.is("P31 one asker", new BallotBus().richest(), 0);
    }
}
