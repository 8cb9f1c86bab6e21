import java.util.function.IntConsumer;

/** The boundary cases of section 2 and of promises 7 and 9 to 31: what there is, votes, accounts. */
public final class VoteEdgesTest {
    private static final String FIVE = "class a;class b;class c;class d;class e;";
    private static final int[] FAR = {Integer.MIN_VALUE, -60, -2, -1, 60, 1 << 8, 1 << 16, Integer.MAX_VALUE};

    public static void main(String[] args) {
        turnGoesRound();
        turnLasts();
        oneAskerHasEachTurn();
        castAtTheEndOfATurn();
        silenceAgainstItsSetting();
        refusedOrUndoneCastIsNone();
        lastCastOfATurnCounts();
        castAndVoting();
        noVoteCounts();
        strongestVotes();
        allTies();
        oneClass();
        firstAndLastNumbers();
        counts();
        waitingAndInProgress();
        longestLine();
        sixtyAnswers();
        answersTellAskerAndClass();
        championOfMany();
        decisiveVotes();
        zeroWait();
        sharesOfMany();
        greatestDebts();
        richestOfMany();
        forecastsLeaveVotesAlone();
        Check.end();
    }

    private static String askers(int number, String behind) {
        StringBuilder text = new StringBuilder();
        for (int asker = 0; asker < number; asker++) {
            text.append("asker ").append((char) ('p' + asker)).append(" credits 0").append(behind).append(';');
        }
        return text.toString();
    }

    // ---- section 2: turns and silence

    private static void turnGoesRound() {
        for (int askers = 1; askers <= 8; askers++) {
            BallotBus bus = Check.bus("class a;turn 1;" + askers(askers, ""));
            Check.is("P7 at first asker 0", bus.count(12), 0);
            for (int time = 1; time <= 2 * askers + 2; time++) {
                bus.run(1);
                Check.is("P7 turn of " + askers + " at " + time, bus.count(12), (time - 1) % askers);
            }
        }
    }

    private static void turnLasts() {
        int[] turns = {2, 3, 19, 20};
        for (int turn : turns) {
            BallotBus bus = Check.bus("class a;asker x credits 0;asker y credits 0;turn " + turn + ";");
            bus.run(turn);
            Check.is("P7 the turn of x lasts " + turn, bus.count(12), 0);
            bus.run(1);
            Check.is("P7 then it is y", bus.count(12), 1);
            Check.is("P9 x was silent", bus.asker(0, 3), 1);
            Check.is("P9 y was not", bus.asker(1, 3), 0);
            bus.run(turn - 1);
            Check.is("P7 the turn of y lasts " + turn, bus.count(12), 1);
            bus.run(1);
            Check.is("P7 from the first one on again", bus.count(12), 0);
        }
    }

    private static void oneAskerHasEachTurn() {
        BallotBus bus = Check.bus("class a;asker x credits 0;turn 2;");
        bus.cast(0);
        bus.run(2);
        Check.is("P9 the turn has its ballot", bus.asker(0, 5), 1);
        bus.run(1);
        Check.is("P9 the next turn has none", bus.asker(0, 5), 0);
        Check.is("P9 no silence", bus.asker(0, 3), 0);
        Check.is("P35 the turn is that of x again", bus.cast(0), 0);
        bus.run(2);
        Check.is("P9 no silence", bus.asker(0, 3), 0);
        bus.run(2);
        Check.is("P9 a turn without a ballot", bus.asker(0, 3), 1);
    }

    private static void castAtTheEndOfATurn() {
        BallotBus bus = Check.bus("class a;asker x credits 0;asker y credits 0;turn 3;");
        bus.run(3);
        Check.is("P35 the last moment of the turn of x", bus.cast(0), 0);
        bus.run(1);
        Check.is("P9 it counts for the turn that ends", bus.asker(0, 3), 0);
        Check.is("P35 the first moment of the turn of y", bus.cast(0), 1);
        bus.run(3);
        Check.is("P9 x and y are not silent", bus.asker(0, 3) + bus.asker(1, 3), 0);
        bus.run(3);
        Check.is("P9 x is silent", bus.asker(0, 3), 1);
    }

    private static void silenceAgainstItsSetting() {
        for (int setting = 1; setting <= 9; setting++) {
            BallotBus bus = Check.bus("class a;asker x credits 0 weight 4;turn 1;silence " + setting + ";");
            Check.is("P46 at first", bus.silentIn(0), setting + 1);
            for (int time = 1; time <= setting + 2; time++) {
                bus.run(1);
                boolean counts = time - 1 < setting;
                Check.is("P9 silence at " + time, bus.asker(0, 3), time - 1);
                Check.is("P9 counts with setting " + setting, bus.asker(0, 4), counts ? 1 : 0);
                Check.is("P24 votes with setting " + setting, bus.votes(), counts ? 4 : 0);
                Check.is("P46 setting " + setting, bus.silentIn(0), counts ? setting + 1 - time : 0);
            }
        }
    }

    private static void refusedOrUndoneCastIsNone() {
        BallotBus bus = Check.bus("class a;class b;asker x credits 0;turn 2;");
        Check.fails("P35 no ballot", Check.ARGUMENT, () -> bus.cast(11));
        Check.is("P9 no cast", bus.asker(0, 5), 0);
        bus.cast(10);
        Check.is("P9 a cast", bus.asker(0, 5), 1);
        bus.undo();
        Check.is("P9 no cast any more", bus.asker(0, 5), 0);
        Check.is("P11 the ballot before", Check.ballot(bus, 0), "01");
        bus.run(3);
        Check.is("P9 x was silent", bus.asker(0, 3), 1);
    }

    private static void lastCastOfATurnCounts() {
        BallotBus bus = Check.bus("class a;class b;class c;asker x credits 0;turn 5;round 3;");
        bus.cast(210);
        bus.cast(120);
        bus.run(1);
        Check.is("P12 the last ballot", Check.order(bus), "120");
        bus.cast(12);
        bus.cast(201);
        bus.run(3);
        Check.is("P12 the last ballot", Check.order(bus), "201");
    }

    private static void castAndVoting() {
        BallotBus bus = Check.bus("class a;class b;asker x credits 0;turn 20;round 6;");
        bus.cast(10);
        bus.run(1);
        Check.is("P12 voted at the time 0", Check.order(bus), "10");
        bus.cast(1);
        bus.run(5);
        Check.is("P12 not before the time 6 has its tick", Check.order(bus), "10");
        Check.is("P7 one voting", bus.count(14), 1);
        bus.run(1);
        Check.is("P12 voted at the time 6", Check.order(bus), "01");
        Check.is("P7 two votings", bus.count(14), 2);
        BallotBus slow = Check.bus("class a;class b;asker x credits 0;turn 20;round 50;");
        slow.run(1);
        slow.cast(10);
        slow.run(49);
        Check.is("P12 round 50, at 50", Check.order(slow) + slow.count(14), "011");
        slow.run(1);
        Check.is("P12 round 50, at 51", Check.order(slow) + slow.count(14), "102");
        BallotBus fast = Check.bus("class a;class b;asker x credits 0;turn 20;round 1;");
        fast.run(9);
        Check.is("P7 round 1", fast.count(14), 9);
        fast.cast(10);
        fast.run(1);
        Check.is("P12 round 1", Check.order(fast), "10");
    }

    private static void noVoteCounts() {
        BallotBus bus = Check.bus("class a;class b;class c;asker x credits 50;turn 1;round 4;silence 1;veto 5;");
        bus.cast(201);
        bus.run(6);
        Check.is("P24 no vote counts", bus.votes(), 0);
        bus.veto(0, 1);
        bus.run(3);
        Check.is("P12 the order stays", Check.order(bus), "201");
        Check.is("P7 it was voted all the same", bus.count(14), 3);
        Check.is("P7 no class is vetoed any more", bus.count(13), 0);
        for (int kind = 0; kind < 3; kind++) {
            Check.is("P17 no points", bus.points(kind), 0);
            Check.is("P20 no wins", bus.wins(kind), 0);
            for (int other = 0; other < 3; other++) {
                Check.is("P18 no firsts", bus.firsts(kind, other), 0);
                Check.is("P19 beats none", bus.beats(kind, other), false);
                Check.is("P25 no difference", bus.differences(kind, other), 0);
            }
            Check.is("P22 the order stays", Check.voted(bus, kind), "201");
        }
        Check.is("P21 no champion", bus.champion(), -1);
        Check.is("P23 not decisive", bus.isDecisive(0), false);
        Check.is("P27 the first order of all", Check.middle(bus), "012");
    }

    // ---- promises 17 to 22: the greatest sums, and ties

    private static void strongestVotes() {
        BallotBus bus = Check.bus(FIVE + askers(8, " weight 9"));
        Check.is("P24 all weights", bus.votes(), 72);
        for (int kind = 0; kind < 5; kind++) {
            Check.is("P17 points of " + kind, bus.points(kind), 72 * (4 - kind));
            Check.is("P20 wins of " + kind, bus.wins(kind), 4 - kind);
            for (int other = 0; other < 5; other++) {
                Check.is("P18 firsts of " + kind, bus.firsts(kind, other), kind == other ? 72 : 0);
                Check.is("P19 " + kind + " beats " + other, bus.beats(kind, other), kind < other);
            }
        }
        Check.is("P21 beats all", bus.champion(), 0);
        Check.is("P27 nobody is apart from it", Check.middle(bus), "01234");
    }

    private static void allTies() {
        BallotBus bus = Check.bus(FIVE + "asker x credits 0;asker y credits 0;turn 1;");
        bus.run(2);
        bus.cast(43210);
        for (int kind = 0; kind < 5; kind++) {
            Check.is("P17 as many points", bus.points(kind), 4);
            Check.is("P20 no wins", bus.wins(kind), 0);
        }
        Check.is("P19 as many for it as against it", bus.beats(0, 4) || bus.beats(4, 0), false);
        Check.is("P21 no champion", bus.champion(), -1);
        Check.is("P22 by points the smaller number", Check.voted(bus, 0), "01234");
        // Firsts at place 0: a and e; at place 1: b and d; c has both votes at place 2.
        Check.is("P22 by firsts, place by place", Check.voted(bus, 1), "04132");
        Check.is("P22 by pairs the smaller number", Check.voted(bus, 2), "01234");
        Check.is("P25 e ahead of b, c, d, and d ahead of c", bus.differences(0, 1), 4);
        Check.is("P25 the same order", bus.differences(0, 2), 0);
        Check.is("P26 the order of the numbers", bus.distance(0), 0);
        Check.is("P26 all pairs", bus.distance(1), 10);
        Check.is("P27 the first of all orders", Check.middle(bus), "01234");
        Check.is("P23 x turns the order of the numbers", bus.isDecisive(0), true);
        Check.is("P23 y does not", bus.isDecisive(1), false);
    }

    private static void oneClass() {
        BallotBus bus = new BallotBus();
        Check.is("P17 nothing is behind it", bus.points(0), 0);
        Check.is("P18 one vote", bus.firsts(0, 0), 1);
        Check.is("P19 not itself", bus.beats(0, 0), false);
        Check.is("P20 none", bus.wins(0), 0);
        Check.is("P21 all others: none", bus.champion(), 0);
        Check.is("P22 itself", bus.voted(0, 0) + bus.voted(1, 0) + bus.voted(2, 0), 0);
        Check.is("P23 not decisive", bus.isDecisive(0), false);
        Check.is("P25 no pair", bus.differences(0, 2), 0);
        Check.is("P26 no pair", bus.distance(0), 0);
        Check.is("P27 itself", bus.middle(0), 0);
    }

    // ---- the first and the last number of each kind of number

    private static void firstAndLastNumbers() {
        for (int kinds = 1; kinds <= 5; kinds++) {
            for (int askers = 1; askers <= 8; askers++) {
                BallotBus bus = Check.bus(FIVE.substring(0, 8 * kinds) + askers(askers, ""));
                for (int kind = 0; kind < kinds; kind++) {
                    kindMethods(bus, kind, false);
                }
                for (int asker = 0; asker < askers; asker++) {
                    askerMethods(bus, asker, false);
                }
                kindMethods(bus, kinds, true);
                askerMethods(bus, askers, true);
                kindMethods(bus, -1, true);
                askerMethods(bus, -1, true);
            }
        }
        for (int value : FAR) {
            kindMethods(new BallotBus(), value, true);
            askerMethods(new BallotBus(), value, true);
            tallyMethods(new BallotBus(), value);
        }
        tallyMethods(new BallotBus(), 3);
    }

    private static void call(String what, int value, boolean isBad, IntConsumer method) {
        if (isBad) {
            Check.fails(what + " of " + value, Check.INDEX, () -> method.accept(value));
        } else {
            method.accept(value);
        }
    }

    private static void kindMethods(BallotBus bus, int kind, boolean isBad) {
        call("P10 kind", kind, isBad, value -> bus.kind(value, 0));
        call("P11 ballot", kind, isBad, value -> bus.ballot(0, value));
        call("P12 order", kind, isBad, bus::order);
        call("P17 points", kind, isBad, bus::points);
        call("P18 firsts", kind, isBad, value -> bus.firsts(value, 0));
        call("P18 firsts at", kind, isBad, value -> bus.firsts(0, value));
        call("P19 beats", kind, isBad, value -> bus.beats(value, 0));
        call("P19 beats", kind, isBad, value -> bus.beats(0, value));
        call("P20 wins", kind, isBad, bus::wins);
        call("P22 voted", kind, isBad, value -> bus.voted(0, value));
        call("P27 middle", kind, isBad, bus::middle);
        call("P28 meanWait", kind, isBad, bus::meanWait);
        if (isBad) {
            call("P14 line", kind, true, value -> bus.line(value, 0));
        } else {
            Check.fails("P14 nothing waits", Check.ELEMENT, () -> bus.line(kind, 0));
        }
    }

    private static void askerMethods(BallotBus bus, int asker, boolean isBad) {
        call("P9 asker", asker, isBad, value -> bus.asker(value, 0));
        call("P11 ballot", asker, isBad, value -> bus.ballot(value, 0));
        call("P23 isDecisive", asker, isBad, bus::isDecisive);
        call("P26 distance", asker, isBad, bus::distance);
        call("P29 share", asker, isBad, bus::share);
        call("P46 silentIn", asker, isBad, bus::silentIn);
    }

    private static void tallyMethods(BallotBus bus, int tally) {
        Check.fails("P22 tally " + tally, Check.ARGUMENT, () -> bus.voted(tally, 0));
        Check.fails("P22 tally and place " + tally, Check.INDEX, () -> bus.voted(tally, -1));
        Check.fails("P25 tally " + tally, Check.ARGUMENT, () -> bus.differences(tally, 2));
        Check.fails("P25 other " + tally, Check.ARGUMENT, () -> bus.differences(2, tally));
        Check.fails("P25 the same two " + tally, Check.ARGUMENT, () -> bus.differences(tally, tally));
    }

    // ---- promises 7, 9, 10 and 13 to 16

    private static void counts() {
        BallotBus bus = Check.bus(FIVE + "asker x credits 99;veto 1;");
        for (int what = 0; what <= 15; what++) {
            Check.is("P7 there is a " + what, bus.count(what) >= 0, true);
        }
        for (int what : FAR) {
            Check.is("P7 there is no " + what, bus.count(what), -1);
        }
        Check.is("P7 there is no 16", bus.count(16), -1);
        int mask = 0;
        int[] kinds = {4, 0, 2, 1, 3};
        for (int kind : kinds) {
            bus.veto(0, kind);
            mask += 1 << kind;
            Check.is("P7 vetoed classes", bus.count(13), mask);
        }
        Check.is("P7 all are vetoed", bus.count(13), 31);
        Check.is("P9 vetoes", bus.asker(0, 9), 5);
    }

    private static void waitingAndInProgress() {
        BallotBus bus = Check.bus("class a;class b;asker x credits 0;asker y credits 0;ask y b 3;");
        Check.is("P15 none before a tick", bus.progress(), -1);
        Check.is("P13 left at first", bus.request(0, 3), 3);
        Check.is("P10 the first one", bus.kind(1, 5), 0);
        bus.run(1);
        Check.is("P15 in progress", bus.progress(), 0);
        Check.is("P7 none waits", bus.count(9), 0);
        Check.is("P9 none waits", bus.asker(1, 6), 0);
        Check.is("P10 none waits", bus.kind(1, 1), 0);
        Check.is("P10 none would be taken", bus.kind(1, 5), -1);
        Check.fails("P14 none waits", Check.ELEMENT, () -> bus.line(1, 0));
        Check.is("P13 left", bus.request(0, 3), 2);
        Check.is("P13 the length stays", bus.request(0, 2), 3);
        bus.run(1);
        Check.is("P13 one tick is left", bus.request(0, 3), 1);
        bus.run(1);
        Check.is("P15 answered", bus.progress(), -1);
        Check.fails("P13 answered", Check.ELEMENT, () -> bus.request(0, 0));
        Check.fails("P13 not asked yet", Check.ELEMENT, () -> bus.request(1, 0));
        Check.is("P33 asked", bus.ask(0, 0, 1), 1);
        Check.is("P13 the time", bus.request(1, 4), 3);
        bus.undo();
        Check.fails("P13 asked, and undone", Check.ELEMENT, () -> bus.request(1, 0));
        bus.ask(0, 0, 1);
        bus.cancel(1);
        Check.fails("P13 cancelled", Check.ELEMENT, () -> bus.request(1, 0));
        Check.is("P7 cancelled ones were asked", bus.count(11), 2);
        Check.is("P7 and not answered", bus.count(10), 1);
    }

    private static void longestLine() {
        StringBuilder text = new StringBuilder("class a short;asker x credits 0;");
        for (int serial = 0; serial < 40; serial++) {
            text.append("ask x a").append(20 - serial / 2).append(';');
        }
        BallotBus bus = Check.bus(text.toString());
        for (int index = 0; index < 40; index++) {
            // The lengths go down by pairs, and in a pair the smaller serial number comes first.
            Check.is("P14 line at " + index, bus.line(0, index), 38 - index + 2 * (index % 2));
        }
        Check.fails("P14 no index 40", Check.ELEMENT, () -> bus.line(0, 40));
        for (int index : FAR) {
            Check.fails("P14 index " + index, Check.ELEMENT, () -> bus.line(0, index));
        }
        Check.is("P10 all wait", bus.kind(0, 1), 40);
        Check.is("P10 the first one", bus.kind(0, 5), 38);
        Check.is("P9 all wait", bus.asker(0, 6), 40);
        bus.setManner(0, BallotBus.SERIAL);
        Check.is("P14 the last serial number", bus.line(0, 39), 39);
    }

    private static void sixtyAnswers() {
        BallotBus bus = new BallotBus();
        for (int number = 0; number < 59; number++) {
            bus.ask(0, 0, 1);
            bus.run(1);
        }
        Check.is("P16 the oldest of 59", bus.answer(58, 0), 0);
        Check.fails("P16 not yet sixty", Check.ELEMENT, () -> bus.answer(59, 0));
        bus.ask(0, 0, 1);
        bus.run(1);
        Check.is("P16 the oldest of 60", bus.answer(59, 0), 0);
        Check.fails("P16 sixty", Check.ELEMENT, () -> bus.answer(60, 0));
        bus.ask(0, 0, 1);
        bus.run(1);
        Check.is("P16 the latest", bus.answer(0, 0), 60);
        Check.is("P16 the oldest of the latest 60", bus.answer(59, 0), 1);
        Check.fails("P16 answered, and not one of the latest 60", Check.ELEMENT, () -> bus.answer(60, 0));
        for (int back : FAR) {
            Check.fails("P16 back " + back, Check.ELEMENT, () -> bus.answer(back, 0));
            Check.fails("P16 what " + back, Check.ARGUMENT, () -> bus.answer(0, back));
            Check.fails("P13 what " + back, Check.ARGUMENT, () -> bus.request(0, back));
        }
        Check.fails("P16 what 6", Check.ARGUMENT, () -> bus.answer(0, 6));
        Check.fails("P16 what 6 and back 60", Check.ARGUMENT, () -> bus.answer(60, 6));
        Check.fails("P16 no answer at all", Check.ELEMENT, () -> new BallotBus().answer(0, 5));
        Check.fails("P16 no answer at all, and no property", Check.ARGUMENT, () -> new BallotBus().answer(0, 6));
    }

    private static void answersTellAskerAndClass() {
        BallotBus bus = Check.bus(FIVE + askers(8, "") + "veto 7;line 7;");
        bus.veto(6, 0);
        bus.run(3);
        bus.ask(6, 4, 5);
        bus.ask(6, 2, 5);
        bus.ask(0, 3, 1);
        bus.run(11);
        // Class c comes first: it settles 5 of 7, then class d, then class e settles 2.
        int[][] due = {{0, 6, 4, 3, 13, 2}, {2, 0, 3, 3, 8, 0}, {1, 6, 2, 3, 7, 5}};
        for (int back = 0; back < 3; back++) {
            for (int what = 0; what < 6; what++) {
                Check.is("P16 answer(" + back + ", " + what + ")", bus.answer(back, what), due[back][what]);
            }
        }
        Check.is("P9 the rest of the length", bus.asker(6, 0), 3);
        Check.is("P9 all is settled", bus.asker(6, 1), 0);
        for (int what = 0; what <= 9; what++) {
            bus.asker(7, what);
        }
        Check.fails("P9 no property 10", Check.INDEX, () -> bus.asker(7, 10));
        Check.fails("P10 no property 6", Check.INDEX, () -> bus.kind(4, 6));
        for (int what : FAR) {
            Check.fails("P9 property " + what, Check.INDEX, () -> bus.asker(0, what));
            Check.fails("P10 property " + what, Check.INDEX, () -> bus.kind(0, what));
        }
    }

    // ---- promises 21, 23 and 28 to 31

    private static void championOfMany() {
        BallotBus bus = Check.bus(FIVE + "asker x credits 0;asker y credits 0;turn 1;");
        for (int kind = 4; kind >= 0; kind--) {
            BallotBus one = Check.bus(FIVE + "asker x credits 0;");
            one.cast(kind * 10000 + rest(kind));
            Check.is("P21 first in the only ballot", one.champion(), kind);
            Check.is("P20 beats all others", one.wins(kind), 4);
        }
        bus.cast(10234);
        bus.run(2);
        bus.cast(1234);
        // Classes a and b beat all others, but not one another.
        Check.is("P20 three of four", bus.wins(0) * 10 + bus.wins(1), 33);
        Check.is("P21 none beats all others", bus.champion(), -1);
    }

    /** The other classes behind the first one, in the order of their numbers. */
    private static int rest(int first) {
        int code = 0;
        for (int kind = 0; kind < 5; kind++) {
            code = kind == first ? code : code * 10 + kind;
        }
        return code;
    }

    private static void decisiveVotes() {
        BallotBus bus = Check.bus("class a;class b;asker x credits 0 weight 2;asker y credits 0;turn 1;silence 1;"
            + "round 50;");
        bus.cast(10);
        bus.run(2);
        Check.is("P23 y counts, but x decides", bus.isDecisive(1), false);
        Check.is("P23 without x the vote of y is left", bus.isDecisive(0), true);
        bus.run(1);
        // No vote counts but that of x: without it the order stays, which was voted with the ballot b a.
        Check.is("P24 y is silent", bus.votes(), 2);
        Check.is("P23 no other vote counts, the same order", bus.isDecisive(0), false);
        Check.is("P23 y does not count", bus.isDecisive(1), false);
        bus.cast(1);
        Check.is("P23 no other vote counts, another order", bus.isDecisive(0), true);
    }

    private static void zeroWait() {
        BallotBus bus = new BallotBus();
        Check.is("P28 none was answered", bus.meanWait(0), 0.0);
        bus.run(5);
        bus.ask(0, 0, 1);
        bus.run(1);
        Check.is("P28 answered in the tick at which it was asked", bus.meanWait(0), 0.0);
        bus.ask(0, 0, 2);
        bus.run(2);
        Check.is("P28 one of two waited a tick", bus.meanWait(0), 0.5);
        bus.ask(0, 0, 1);
        bus.run(1);
        Check.is("P28 one of three waited a tick", bus.meanWait(0), 1.0 / 3.0);
        bus.undo();
        Check.is("P28 undone", bus.meanWait(0), 0.5);
    }

    private static void sharesOfMany() {
        BallotBus bus = Check.bus("class a;" + askers(8, ""));
        for (int asker = 0; asker < 8; asker++) {
            Check.is("P29 none was answered", bus.share(asker), 0.0);
            bus.ask(asker, 0, 1 + asker);
        }
        bus.run(36);
        Check.is("P47 all are answered", bus.emptyIn(), 0);
        for (int asker = 0; asker < 8; asker++) {
            Check.is("P29 share of " + asker, bus.share(asker), (float) (1 + asker) / (float) 36);
        }
        BallotBus long20 = Check.bus("class a;asker x credits 0;asker y credits 0;ask x a 20;ask y a 1;");
        long20.run(20);
        Check.is("P29 the one in progress does not count", long20.share(0), 1.0);
        long20.run(1);
        Check.is("P29 twenty of twenty-one", long20.share(0), 20.0f / 21.0f);
    }

    private static void greatestDebts() {
        BallotBus bus = Check.bus(FIVE + askers(8, "") + "veto 99;line 99;round 1;");
        Check.is("P30 no debts", bus.debts(), 0);
        for (int asker = 0; asker < 8; asker++) {
            Check.is("P36 the greatest debt", bus.veto(asker, asker % 5), 99);
            Check.is("P30 debts", bus.debts(), 99 * (asker + 1));
            if (asker == 4) {
                bus.run(1);
            }
        }
        Check.is("P31 all have the same", bus.richest(), 0);
    }

    private static void richestOfMany() {
        for (int rich = 0; rich < 8; rich++) {
            StringBuilder text = new StringBuilder("class a;");
            for (int asker = 0; asker < 8; asker++) {
                text.append("asker ").append((char) ('p' + asker)).append(asker == rich ? " credits 1;" : " credits 0;");
            }
            BallotBus bus = Check.bus(text.toString());
            Check.is("P31 the only one with credits", bus.richest(), rich);
        }
        BallotBus bus = Check.bus("class a;class b;asker x credits 0;asker y credits 1;veto 3;line 9;round 50;");
        bus.run(1);
        bus.veto(1, 0);
        Check.is("P31 nothing is more than a debt", bus.richest(), 0);
        bus.veto(0, 1);
        Check.is("P31 the smaller debt", bus.richest(), 1);
    }

    /** Forecasts and counting use rows of their own: what they leave there does not show. */
    private static void forecastsLeaveVotesAlone() {
        BallotBus bus = Check.bus("class a;class b;asker x credits 0;asker y credits 0 weight 2;turn 1;silence 2;"
            + "round 50;");
        bus.run(2);
        bus.cast(10);
        bus.saveState();
        bus.cast(1);
        bus.answersIn(500, -1);
        Check.is("P23 x counts, but y decides", bus.isDecisive(0), false);
        bus.cast(10);
        Check.is("P9 y has the turn and has cast", bus.asker(1, 5), 1);
        bus.answersIn(499, -1);
        Check.is("P9 y has the turn and has cast", bus.asker(0, 5) * 10 + bus.asker(1, 5), 1);
        Check.is("P23 y decides", bus.isDecisive(1), true);
        bus.bestBallot(100);
        Check.is("P23 y decides", bus.isDecisive(1), true);
        Check.is("P9 y has the turn and has cast", bus.asker(1, 5), 1);
        Check.is("P11 the ballot of y", Check.ballot(bus, 1), "10");
    }
}
